import java.util.ArrayList;
import java.util.Collections;
import java.util.List;
import java.util.Random;
import java.util.function.IntSupplier;

/** Long runs of calls, drawn with fixed seeds, on the class and on the model of the document's words. */
public final class ModelTest {
    private static final int RUNS = 2400;
    private static final int CHANGES = 130;

    // What an object answers after so many calls is free.
    private static final int MOST_CALLS = 512;
    private static final int MOST_CHAIN = 20;
    private static final int THROWN = -1000;
    private static final Check CHECK = new Check("ModelTest");

    private final Random random;
    private final String run;
    private final ComponentContainer c = new ComponentContainer();
    private final Model model = new Model();
    private final int types;
    private final int modesBound;
    private int calls = 0;

    private ModelTest(int seed) {
        random = new Random(seed);
        run = "run " + seed;
        types = 2 + random.nextInt(9);
        modesBound = 1 + random.nextInt(4);
    }

    public static void main(String[] args) {
        for (int seed = 0; seed < RUNS; seed++) {
            new ModelTest(seed).go();
        }
        CHECK.finish();
    }

    private void go() {
        int first = 2 + random.nextInt(19);
        for (int i = 0; i < first; i++) {
            add();
        }
        for (int i = 0; i < CHANGES; i++) {
            change(i);
            if (i % 20 == 19) {
                compareOne();
            }
        }
        compareAsMuchAsThereIsRoom();
    }

    private void add() {
        int mask = 1 << random.nextInt(types) | (random.nextInt(4) == 0 ? 1 << random.nextInt(types) : 0);
        int scope = random.nextInt(3);
        CHECK.same(run + ": add", used().add(mask, scope), model.parts.size());
        model.add(mask, scope);
    }

    private void change(int step) {
        int draw = random.nextInt(100);
        Model.Part part = model.parts.get(random.nextInt(model.parts.size()));
        if (draw < 25) {
            depend(part);
        } else if (draw < 35) {
            set(part);
        } else if (draw < 38) {
            int profile = random.nextInt(3);
            boolean on = random.nextBoolean();
            CHECK.same(run + ": profile", used().profile(profile, on), model.profiles[profile]);
            model.profiles[profile] = on;
        } else if (draw < 41) {
            CHECK.same(run + ": clear", used().clear(part.number), part.dependencies.size());
            part.dependencies.clear();
        } else if (draw < 75) {
            int type = random.nextInt(types);
            int qualifier = qualifier();
            failing(step + " resolve(" + type + ", " + qualifier + ")", () -> used().resolve(type, qualifier),
                    () -> model.resolve(type, qualifier));
        } else if (draw < 83) {
            provide(step);
        } else if (draw < 88) {
            failing(step + " start()", () -> used().start(), () -> model.start());
        } else {
            changeScopes(draw);
        }
    }

    private int qualifier() {
        return random.nextInt(5) == 0 ? random.nextInt(3) : -1;
    }

    private void depend(Model.Part part) {
        if (part.dependencies.size() == 6) {
            CHECK.badState(run + ": depend", () -> used().depend(part.number, 0, -1, 0));
            return;
        }
        int[] d = {random.nextInt(types), qualifier(), (3 + random.nextInt(modesBound)) % 4};
        CHECK.same(run + ": depend", used().depend(part.number, d[0], d[1], d[2]), part.dependencies.size());
        part.dependencies.add(d);
    }

    private void set(Model.Part part) {
        int property = random.nextInt(7);
        int value = new int[] {1 << random.nextInt(types), random.nextInt(3), qualifier(), random.nextInt(2),
            random.nextInt(2), random.nextInt(4) - 1, random.nextInt(2) * random.nextInt(9) - 1}[property];
        CHECK.same(run + ": set", used().set(part.number, property, value), part.properties[property]);
        part.properties[property] = value;
    }

    private void provide(int step) {
        if (model.things.isEmpty()) {
            return;
        }
        Model.Thing thing = model.things.get(random.nextInt(model.things.size()));
        int index = random.nextInt(3);
        String call = run + ": " + step + " provide(" + thing.number + ", " + index + ")";
        if (index >= thing.part.dependencies.size() || thing.part.dependencies.get(index)[2] != 3) {
            CHECK.badArgument(call, () -> used().provide(thing.number, index));
        } else if (!thing.alive) {
            CHECK.badState(call, () -> used().provide(thing.number, index));
        } else {
            int[] d = thing.part.dependencies.get(index);
            failing(step + " provide", () -> used().provide(thing.number, index), () -> model.resolve(d[0], d[1]));
        }
    }

    private void changeScopes(int draw) {
        if (draw < 94) {
            if (model.scopes.size() == 5) {
                CHECK.badState(run + ": begin", () -> used().begin());
            } else {
                model.scopes.add(new ArrayList<>());
                CHECK.same(run + ": begin", used().begin(), model.scopes.size());
            }
        } else if (draw < 98) {
            if (model.scopes.isEmpty()) {
                CHECK.badState(run + ": end", () -> used().end());
            } else {
                CHECK.same(run + ": end", used().end(), model.end());
            }
        } else {
            CHECK.same(run + ": close", used().close(), model.close());
        }
    }

    private void failing(String what, IntSupplier call, IntSupplier due) {
        CHECK.same(run + ": " + what, orThrown(call), orThrown(due));
        CHECK.same(run + ": kind after " + what, used().failureKind(), model.failure == null ? 0 : model.failure.kind);
    }

    private static int orThrown(IntSupplier call) {
        try {
            return call.getAsInt();
        } catch (IllegalStateException | Model.Failed e) {
            return THROWN;
        }
    }

    private void compareOne() {
        compareComponent(model.parts.get(random.nextInt(model.parts.size())));
        compareFailure();
        CHECK.same(run + ": instances", used().instances(), model.things.size());
        CHECK.same(run + ": events", used().event(-1), model.events.size());
    }

    /** The object, for one call more. */
    private ComponentContainer used() {
        calls++;
        return c;
    }

    /** The comparisons in a drawn order, as many as there are calls left for. */
    private void compareAsMuchAsThereIsRoom() {
        List<Comparison> comparisons = new ArrayList<>();
        comparisons.add(new Comparison(4 + MOST_CHAIN, this::compareFailure));
        for (Model.Part part : model.parts) {
            comparisons.add(new Comparison(2, () -> compareComponent(part)));
        }
        for (int i = 0; i < 16 * 5; i++) {
            int type = i / 5;
            int qualifier = i % 5 - 1;
            comparisons.add(new Comparison(2, () -> compareChoice(type, qualifier)));
        }
        for (Model.Thing thing : model.things) {
            comparisons.add(new Comparison(9, () -> compareInstance(thing)));
        }
        for (int i = 0; i < model.events.size(); i++) {
            int index = i;
            comparisons.add(new Comparison(1, () -> CHECK.same(run + ": event " + index, used().event(index),
                    model.events.get(index))));
        }
        Collections.shuffle(comparisons, random);
        for (Comparison comparison : comparisons) {
            if (calls + comparison.calls <= MOST_CALLS) {
                comparison.work.run();
            }
        }
    }

    /** Compares some answers with the model's by at most so many calls. */
    private record Comparison(int calls, Runnable work) {
    }

    private void compareChoice(int type, int qualifier) {
        Model.Part due = model.chosen(type, qualifier);
        CHECK.same(run + ": candidates", used().candidates(type, qualifier),
                Model.mask(model.candidates(type, qualifier)));
        CHECK.same(run + ": chosen", used().chosen(type, qualifier), due == null ? -1 : due.number);
    }

    private void compareComponent(Model.Part part) {
        int due = model.problem(part);
        if (due != -1) {
            CHECK.same(run + ": problem(" + part.number + ")", used().problem(part.number), due);
        }
        CHECK.same(run + ": needs(" + part.number + ")", used().needs(part.number), model.needs(part));
    }

    private void compareInstance(Model.Thing thing) {
        int number = thing.number;
        CHECK.same(run + ": componentOf", used().componentOf(number), thing.part.number);
        CHECK.same(run + ": isAlive", used().isAlive(number), thing.alive);
        for (int i = 0; i < thing.injected.size(); i++) {
            CHECK.same(run + ": injected", used().injected(number, i), thing.injected.get(i));
        }
        CHECK.badArgument(run + ": injected past the end", () -> used().injected(number, thing.injected.size()));
    }

    private void compareFailure() {
        if (model.failure == null) {
            calls += 4;
            CHECK.failure(c, run, 0, -1);
            return;
        }
        int[] chain = new int[model.failure.chain.size()];
        for (int i = 0; i < chain.length; i++) {
            chain[i] = model.failure.chain.get(i);
        }
        calls += 4 + chain.length;
        CHECK.failure(c, run, model.failure.kind, model.failure.detail, chain);
    }
}
