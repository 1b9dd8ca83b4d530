/** The four examples of the document. */
public final class ExamplesTest {
    private static final Check CHECK = new Check("ExamplesTest");

    public static void main(String[] args) {
        prototypeInSingleton();
        cycle();
        ambiguous();
        scopes();
        CHECK.finish();
    }

    private static void prototypeInSingleton() {
        ComponentContainer c = new ComponentContainer();
        CHECK.same("1: add(1, 0)", c.add(1, 0), 0);
        CHECK.same("1: add(2, 1)", c.add(2, 1), 1);
        CHECK.same("1: depend", c.depend(0, 1, -1, 0), 0);
        CHECK.same("1: resolve(0, -1)", c.resolve(0, -1), 1);
        CHECK.same("1: componentOf(0)", c.componentOf(0), 1);
        CHECK.same("1: injected(1, 0)", c.injected(1, 0), 0);
        CHECK.same("1: resolve(0, -1) again", c.resolve(0, -1), 1);
        CHECK.same("1: resolve(1, -1)", c.resolve(1, -1), 2);
        CHECK.same("1: event(-1)", c.event(-1), 3);
        CHECK.same("1: close()", c.close(), 1);
        CHECK.same("1: event(3)", c.event(3), 3);
    }

    private static void cycle() {
        ComponentContainer c = new ComponentContainer();
        CHECK.same("2: add(1, 0)", c.add(1, 0), 0);
        CHECK.same("2: add(2, 0)", c.add(2, 0), 1);
        CHECK.same("2: depend(0, ..)", c.depend(0, 1, -1, 0), 0);
        CHECK.same("2: depend(1, ..)", c.depend(1, 0, -1, 0), 0);
        CHECK.same("2: problem(0)", c.problem(0), 3);
        CHECK.badState("2: resolve(0, -1)", () -> c.resolve(0, -1));
        CHECK.same("2: failureKind()", c.failureKind(), 3);
        CHECK.same("2: failureDetail()", c.failureDetail(), 0);
        CHECK.same("2: failureChain(-1)", c.failureChain(-1), 2);
        CHECK.same("2: clear(1)", c.clear(1), 1);
        CHECK.same("2: depend(1, .., LATER)", c.depend(1, 0, -1, 3), 0);
        CHECK.same("2: resolve(0, -1) then", c.resolve(0, -1), 1);
        CHECK.same("2: provide(0, 0)", c.provide(0, 0), 1);
    }

    private static void ambiguous() {
        ComponentContainer c = new ComponentContainer();
        CHECK.same("3: add(1, 0)", c.add(1, 0), 0);
        CHECK.same("3: add(1, 0) again", c.add(1, 0), 1);
        CHECK.same("3: candidates(0, -1)", c.candidates(0, -1), 3);
        CHECK.same("3: chosen(0, -1)", c.chosen(0, -1), -1);
        CHECK.badState("3: resolve(0, -1)", () -> c.resolve(0, -1));
        CHECK.same("3: failureKind()", c.failureKind(), 2);
        CHECK.same("3: set(1, 3, 1)", c.set(1, 3, 1), 0);
        CHECK.same("3: resolve(0, -1) then", c.resolve(0, -1), 0);
        CHECK.same("3: componentOf(0)", c.componentOf(0), 1);
    }

    private static void scopes() {
        ComponentContainer c = new ComponentContainer();
        CHECK.same("4: add(1, 2)", c.add(1, 2), 0);
        CHECK.badState("4: resolve(0, -1)", () -> c.resolve(0, -1));
        CHECK.same("4: failureKind()", c.failureKind(), 4);
        CHECK.same("4: begin()", c.begin(), 1);
        CHECK.same("4: resolve(0, -1) in a scope", c.resolve(0, -1), 0);
        CHECK.same("4: begin() again", c.begin(), 2);
        CHECK.same("4: resolve(0, -1) in the inner scope", c.resolve(0, -1), 1);
        CHECK.same("4: end()", c.end(), 1);
        CHECK.same("4: isAlive(1)", c.isAlive(1), false);
        CHECK.same("4: resolve(0, -1) in the outer scope", c.resolve(0, -1), 0);
        CHECK.same("4: close()", c.close(), 1);
        CHECK.same("4: event(-1)", c.event(-1), 4);
    }
}
