import java.util.Random;
import java.util.function.IntSupplier;

/** Long runs of calls, drawn with fixed seeds, on the class and on the model of the document's words. */
public final class ModelTest {
    private static final int RUNS = 1200;
    private static final int CHANGES = 130;
    private static final int THROWN = -1000;
    private static final Check CHECK = new Check("ModelTest");

    private final Random random;
    private final String run;
    private final ComponentContainer c = new ComponentContainer();
    private final Model model = new Model();
    private final int types;
    private final int modesBound;

    private ModelTest(int seed) {
        random = new Random(seed);
        run = "run " + seed;
        types = 2 + random.nextInt(9);
        modesBound = 1 + random.nextInt(4);
    }

    public static void main(String[] args) {
        for (int seed = 0; seed < RUNS; seed++) {
            new ModelTest(seed).go();
        }
        CHECK.finish();
    }

    private void go() {
        int first = 2 + random.nextInt(19);
        for (int i = 0; i < first; i++) {
            add();
        }
        for (int i = 0; i < CHANGES; i++) {
            change(i);
            if (i % 10 == 9) {
                compareOne();
            }
        }
        compareEverything();
    }

    private void add() {
        int mask = 1 << random.nextInt(types) | (random.nextInt(4) == 0 ? 1 << random.nextInt(types) : 0);
        int scope = random.nextInt(3);
        CHECK.same(run + ": add", c.add(mask, scope), model.parts.size());
        model.add(mask, scope);
    }

    private void change(int step) {
        int draw = random.nextInt(100);
        Model.Part part = model.parts.get(random.nextInt(model.parts.size()));
        if (draw < 25) {
            depend(part);
        } else if (draw < 35) {
            set(part);
        } else if (draw < 38) {
            int profile = random.nextInt(3);
            boolean on = random.nextBoolean();
            CHECK.same(run + ": profile", c.profile(profile, on), model.profiles[profile]);
            model.profiles[profile] = on;
        } else if (draw < 41) {
            CHECK.same(run + ": clear", c.clear(part.number), part.dependencies.size());
            part.dependencies.clear();
        } else if (draw < 75) {
            int type = random.nextInt(types);
            int qualifier = qualifier();
            failing(step + " resolve(" + type + ", " + qualifier + ")", () -> c.resolve(type, qualifier),
                    () -> model.resolve(type, qualifier));
        } else if (draw < 83) {
            provide(step);
        } else if (draw < 88) {
            failing(step + " start()", () -> c.start(), () -> model.start());
        } else {
            changeScopes(draw);
        }
    }

    private int qualifier() {
        return random.nextInt(5) == 0 ? random.nextInt(3) : -1;
    }

    private void depend(Model.Part part) {
        if (part.dependencies.size() == 6) {
            CHECK.badState(run + ": depend", () -> c.depend(part.number, 0, -1, 0));
            return;
        }
        int[] d = {random.nextInt(types), qualifier(), (3 + random.nextInt(modesBound)) % 4};
        CHECK.same(run + ": depend", c.depend(part.number, d[0], d[1], d[2]), part.dependencies.size());
        part.dependencies.add(d);
    }

    private void set(Model.Part part) {
        int property = random.nextInt(7);
        int value = new int[] {1 << random.nextInt(types), random.nextInt(3), qualifier(), random.nextInt(2),
            random.nextInt(2), random.nextInt(4) - 1, random.nextInt(2) * random.nextInt(9) - 1}[property];
        CHECK.same(run + ": set", c.set(part.number, property, value), part.properties[property]);
        part.properties[property] = value;
    }

    private void provide(int step) {
        if (model.things.isEmpty()) {
            return;
        }
        Model.Thing thing = model.things.get(random.nextInt(model.things.size()));
        int index = random.nextInt(3);
        String call = run + ": " + step + " provide(" + thing.number + ", " + index + ")";
        if (index >= thing.part.dependencies.size() || thing.part.dependencies.get(index)[2] != 3) {
            CHECK.badArgument(call, () -> c.provide(thing.number, index));
        } else if (!thing.alive) {
            CHECK.badState(call, () -> c.provide(thing.number, index));
        } else {
            int[] d = thing.part.dependencies.get(index);
            failing(step + " provide", () -> c.provide(thing.number, index), () -> model.resolve(d[0], d[1]));
        }
    }

    private void changeScopes(int draw) {
        if (draw < 94) {
            if (model.scopes.size() == 5) {
                CHECK.badState(run + ": begin", () -> c.begin());
            } else {
                model.scopes.add(new java.util.ArrayList<>());
                CHECK.same(run + ": begin", c.begin(), model.scopes.size());
            }
        } else if (draw < 98) {
            if (model.scopes.isEmpty()) {
                CHECK.badState(run + ": end", () -> c.end());
            } else {
                CHECK.same(run + ": end", c.end(), model.end());
            }
        } else {
            CHECK.same(run + ": close", c.close(), model.close());
        }
    }

    private void failing(String what, IntSupplier call, IntSupplier due) {
        CHECK.same(run + ": " + what, orThrown(call), orThrown(due));
        CHECK.same(run + ": kind after " + what, c.failureKind(), model.failure == null ? 0 : model.failure.kind);
    }

    private static int orThrown(IntSupplier call) {
        try {
            return call.getAsInt();
        } catch (IllegalStateException | Model.Failed e) {
            return THROWN;
        }
    }

    private void compareOne() {
        compareComponent(model.parts.get(random.nextInt(model.parts.size())));
        compareFailure();
        CHECK.same(run + ": instances", c.instances(), model.things.size());
        CHECK.same(run + ": events", c.event(-1), model.events.size());
    }

    // These questions change nothing, so that the limit of 512 calls is of no account here.
    private void compareEverything() {
        for (Model.Part part : model.parts) {
            compareComponent(part);
        }
        for (int type = 0; type < 16; type++) {
            for (int qualifier = -1; qualifier < 4; qualifier++) {
                Model.Part due = model.chosen(type, qualifier);
                CHECK.same(run + ": candidates", c.candidates(type, qualifier),
                        Model.mask(model.candidates(type, qualifier)));
                CHECK.same(run + ": chosen", c.chosen(type, qualifier), due == null ? -1 : due.number);
            }
        }
        for (Model.Thing thing : model.things) {
            compareInstance(thing);
        }
        for (int i = 0; i < model.events.size(); i++) {
            CHECK.same(run + ": event " + i, c.event(i), model.events.get(i));
        }
        compareFailure();
    }

    private void compareComponent(Model.Part part) {
        int due = model.problem(part);
        if (due != -1) {
            CHECK.same(run + ": problem(" + part.number + ")", c.problem(part.number), due);
        }
        CHECK.same(run + ": needs(" + part.number + ")", c.needs(part.number), model.needs(part));
    }

    private void compareInstance(Model.Thing thing) {
        int number = thing.number;
        CHECK.same(run + ": componentOf", c.componentOf(number), thing.part.number);
        CHECK.same(run + ": isAlive", c.isAlive(number), thing.alive);
        for (int i = 0; i < thing.injected.size(); i++) {
            CHECK.same(run + ": injected", c.injected(number, i), thing.injected.get(i));
        }
        CHECK.badArgument(run + ": injected past the end", () -> c.injected(number, thing.injected.size()));
    }

    private void compareFailure() {
        if (model.failure == null) {
            CHECK.failure(c, run, 0, -1);
            return;
        }
        int[] chain = new int[model.failure.chain.size()];
        for (int i = 0; i < chain.length; i++) {
            chain[i] = model.failure.chain.get(i);
        }
        CHECK.failure(c, run, model.failure.kind, model.failure.detail, chain);
    }
}
