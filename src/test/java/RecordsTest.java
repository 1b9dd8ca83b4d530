/** Promises 20 to 27: what is told of instances, events and the recorded failure. */
public final class RecordsTest {
    private static final int LEAST = Integer.MIN_VALUE;
    private static final int MOST = Integer.MAX_VALUE;
    private static final Check CHECK = new Check("RecordsTest");

    public static void main(String[] args) {
        instances();
        noSuchInstance();
        injectedAsItWas();
        injectedOfAll();
        events();
        failures();
        failedCallsOfStateRecordNothing();
        CHECK.finish();
    }

    // Promises 20, 21 and 22
    private static void instances() {
        ComponentContainer c = new ComponentContainer();
        c.add(1, 1);
        c.add(2, 0);
        c.depend(1, 0, -1, ComponentContainer.REQUIRED);
        CHECK.same("resolve(1, -1)", c.resolve(1, -1), 1);
        CHECK.same("instances()", c.instances(), 2);
        CHECK.same("componentOf(0)", c.componentOf(0), 0);
        CHECK.same("componentOf(1)", c.componentOf(1), 1);
        CHECK.same("isAlive(0)", c.isAlive(0), true);
        CHECK.same("isAlive(1)", c.isAlive(1), true);
        c.close();
        CHECK.same("instances() counts destroyed ones", c.instances(), 2);
        CHECK.same("componentOf a destroyed one", c.componentOf(1), 1);
        CHECK.same("a destroyed one", c.isAlive(1), false);
        CHECK.same("a prototype", c.isAlive(0), true);
        CHECK.same("injected into a destroyed one", c.injected(1, 0), 0);
    }

    private static void noSuchInstance() {
        ComponentContainer c = new ComponentContainer();
        CHECK.outOfBounds("componentOf(0) at first", () -> c.componentOf(0));
        CHECK.outOfBounds("isAlive(0) at first", () -> c.isAlive(0));
        CHECK.outOfBounds("injected(0, 0) at first", () -> c.injected(0, 0));
        c.add(1, 0);
        c.resolve(0, -1);
        for (int instance : new int[] {-1, 1, 299, 300, LEAST, MOST}) {
            CHECK.outOfBounds("componentOf(" + instance + ")", () -> c.componentOf(instance));
            CHECK.outOfBounds("isAlive(" + instance + ")", () -> c.isAlive(instance));
            CHECK.outOfBounds("injected(" + instance + ", 9)", () -> c.injected(instance, 9));
        }
    }

    // Promise 23
    private static void injectedAsItWas() {
        ComponentContainer c = new ComponentContainer();
        c.add(1, 1);
        c.resolve(0, -1);
        CHECK.badArgument("no dependency", () -> c.injected(0, 0));
        c.add(2, 1);
        c.depend(0, 1, -1, ComponentContainer.REQUIRED);
        c.depend(0, 1, -1, ComponentContainer.LATER);
        CHECK.badArgument("no dependency then", () -> c.injected(0, 0));
        CHECK.same("resolve(0, -1)", c.resolve(0, -1), 2);
        c.clear(0);
        c.depend(0, 5, -1, ComponentContainer.OPTIONAL);
        CHECK.same("REQUIRED then", c.injected(2, 0), 1);
        CHECK.same("LATER then", c.injected(2, 1), -1);
        for (int index : new int[] {2, -1, 6, LEAST, MOST}) {
            CHECK.badArgument("injected(2, " + index + ")", () -> c.injected(2, index));
        }
        CHECK.same("another instance", c.resolve(0, -1), 3);
        CHECK.same("OPTIONAL without candidate", c.injected(3, 0), -1);
        CHECK.badArgument("one dependency only", () -> c.injected(3, 1));
    }

    private static void injectedOfAll() {
        ComponentContainer c = new ComponentContainer();
        for (int i = 0; i < 20; i++) {
            c.add(i < 19 ? 2 : 1, i % 2);
        }
        for (int i = 0; i < 6; i++) {
            c.depend(19, i == 3 ? 4 : 1, -1, ComponentContainer.ALL);
        }
        c.set(19, ComponentContainer.SCOPE, ComponentContainer.PROTOTYPE);
        CHECK.same("10 singletons, 5 times 9 prototypes, and itself", c.resolve(0, -1), 55);
        for (int i = 0; i < 6; i++) {
            CHECK.same("injected(55, " + i + ")", c.injected(55, i), i == 3 ? 0 : 19);
        }
        CHECK.same("by ascending numbers", c.componentOf(18), 18);
        CHECK.same("then the prototypes alone", c.componentOf(19), 1);
    }

    // Promise 24
    private static void events() {
        ComponentContainer c = new ComponentContainer();
        c.add(1, 0);
        c.add(2, 2);
        CHECK.events(c, "at first");
        c.resolve(0, -1);
        c.begin();
        c.resolve(1, -1);
        CHECK.events(c, "two completed", 0, 2);
        c.end();
        c.close();
        CHECK.events(c, "two destroyed", 0, 2, 3, 1);
        for (int index : new int[] {-2, 4, 600, LEAST, MOST}) {
            CHECK.same("event(" + index + ")", c.event(index), -1);
        }
        fullEvents();
    }

    private static void fullEvents() {
        ComponentContainer c = new ComponentContainer();
        for (int i = 0; i < 20; i++) {
            c.add(1, 0);
        }
        for (int round = 0; round < 15; round++) {
            CHECK.same("start()", c.start(), 20);
            CHECK.same("close()", c.close(), 20);
        }
        CHECK.same("all events", c.event(-1), 600);
        CHECK.same("the last one", c.event(599), 561);
        CHECK.same("none behind it", c.event(600), -1);
        CHECK.badState("LIMIT", () -> c.start());
        CHECK.failure(c, "LIMIT", ComponentContainer.LIMIT, 0, 0);
    }

    // Promises 25, 26 and 27
    private static void failures() {
        ComponentContainer c = new ComponentContainer();
        CHECK.failure(c, "none", 0, -1);
        CHECK.same("failureChain(0)", c.failureChain(0), -1);
        c.add(1, 0);
        c.add(2, 0);
        c.depend(0, 1, -1, ComponentContainer.REQUIRED);
        c.depend(1, 8, -1, ComponentContainer.REQUIRED);
        CHECK.badState("resolve", () -> c.resolve(0, -1));
        CHECK.failure(c, "chain of two", ComponentContainer.NO_CANDIDATE, 8, 0, 1);
        for (int index : new int[] {-2, 2, 19, 20, LEAST, MOST}) {
            CHECK.same("failureChain(" + index + ")", c.failureChain(index), -1);
        }
        c.clear(1);
        c.resolve(0, -1);
        c.close();
        c.problem(0);
        CHECK.failure(c, "it stays", ComponentContainer.NO_CANDIDATE, 8, 0, 1);
        CHECK.badState("another", () -> c.resolve(3, -1));
        CHECK.failure(c, "the next one", ComponentContainer.NO_CANDIDATE, 3);
    }

    private static void failedCallsOfStateRecordNothing() {
        ComponentContainer c = new ComponentContainer();
        CHECK.badState("end()", () -> c.end());
        for (int i = 0; i < 5; i++) {
            c.begin();
        }
        CHECK.badState("begin()", () -> c.begin());
        for (int i = 0; i < 20; i++) {
            c.add(1, 0);
        }
        CHECK.badState("add", () -> c.add(1, 0));
        for (int i = 0; i < 6; i++) {
            c.depend(0, 0, -1, 0);
        }
        CHECK.badState("depend", () -> c.depend(0, 0, -1, 0));
        CHECK.badArgument("resolve", () -> c.resolve(-1, 0));
        CHECK.failure(c, "nothing is recorded", 0, -1);
    }
}
