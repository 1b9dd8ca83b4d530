/** All that an object answers, as one text; the object is used up by it. */
final class Answers {
    private final ComponentContainer c;
    private final StringBuilder text = new StringBuilder();

    private Answers(ComponentContainer c) {
        this.c = c;
    }

    static String of(ComponentContainer c) {
        Answers answers = new Answers(c);
        answers.ofComponents();
        answers.ofInstances();
        answers.ofRecords();
        answers.ofProfilesAndScopes();
        return answers.text.toString();
    }

    private void put(String name, int... values) {
        text.append(name);
        for (int value : values) {
            text.append(' ').append(value);
        }
        text.append('\n');
    }

    private void ofComponents() {
        put("components", c.components());
        for (int component = 0; component < c.components(); component++) {
            for (int property = 0; property < 7; property++) {
                put("property", c.property(component, property));
            }
            put("needs", c.needs(component));
            int dependencies = c.dependency(component, -1, 0);
            put("dependencies", dependencies);
            for (int index = 0; index < dependencies; index++) {
                put("dependency", c.dependency(component, index, 0), c.dependency(component, index, 1),
                        c.dependency(component, index, 2));
            }
        }
        for (int type = 0; type < 5; type++) {
            put("candidates", c.candidates(type, -1), c.chosen(type, -1));
        }
    }

    private void ofInstances() {
        put("instances", c.instances());
        for (int instance = 0; instance < c.instances(); instance++) {
            put("instance", c.componentOf(instance), c.isAlive(instance) ? 1 : 0);
            for (int index = 0; index < 6; index++) {
                try {
                    put("injected", c.injected(instance, index));
                } catch (IllegalArgumentException e) {
                    put("no dependency " + index);
                }
            }
        }
    }

    private void ofRecords() {
        put("events", c.event(-1));
        for (int index = 0; index < c.event(-1); index++) {
            put("event", c.event(index));
        }
        put("failure", c.failureKind(), c.failureDetail(), c.failureChain(-1));
        for (int index = 0; index < c.failureChain(-1); index++) {
            put("chain", c.failureChain(index));
        }
    }

    private void ofProfilesAndScopes() {
        for (int profile = 0; profile <= 7; profile++) {
            put("profile", c.profile(profile, true) ? 1 : 0);
        }
        try {
            for (int ended = 0; ended <= 5; ended++) {
                put("end", c.end());
            }
        } catch (IllegalStateException e) {
            put("no scope");
        }
        put("begin", c.begin());
        put("close", c.close());
    }
}
