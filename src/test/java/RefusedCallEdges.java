/** Edges of calls that throw: in which order the exceptions are checked, and what such a call leaves. */
final class RefusedCallEdges extends Edges {
    private static final String ORDER = "Each method names the exceptions that it throws in the order in which they are"
            + " checked; the first one that applies is thrown.";
    private static final String LEAVES = "A call that throws IndexOutOfBoundsException or IllegalArgumentException"
            + " changes nothing, and neither does one that throws IllegalStateException, except as told under FAILURES.";
    private static final String CALLS =
            "An object is used for at most 512 calls after it has been made; what later calls answer is free.";

    static void run() {
        lastCall();
        argumentBeforeState();
        indexBeforeArgument();
        indexAndArgumentBeforeState();
        refusedInUse();
        refusedWhenFull();
        refusedWhenEmpty();
        failedRequestLeavesTheRest();
    }

    private static void lastCall() {
        CHECK.sentence("What it is", CALLS);
        ComponentContainer c = twenty(SINGLETON);
        for (int round = 0; round < 15; round++) {
            c.start();
            c.close();
        }
        for (int call = 51; call <= 512; call++) {
            CHECK.same("call " + call, c.event(-1), 600);
        }
        ComponentContainer grown = with(PROTOTYPE);
        for (int call = 2; call <= 511; call++) {
            int instance = call - 2;
            if (instance < 300) {
                CHECK.same("call " + call, grown.resolve(0, NONE), instance);
            } else {
                resolveFails(grown, "call " + call, 0);
            }
        }
        CHECK.same("call 512", grown.instances(), 300);
    }

    // ---- the order of the exceptions

    private static void argumentBeforeState() {
        description(ORDER);
        ComponentContainer full = twenty(SCOPED);
        CHECK.badArgument("add: types before 20 components", () -> full.add(0, SINGLETON));
        CHECK.badArgument("add: scope before 20 components", () -> full.add(1, 3));
        CHECK.badState("add: 20 components", () -> full.add(1, SINGLETON));
        CHECK.badArgument("resolve: type before the failure", () -> full.resolve(16, NONE));
        CHECK.badArgument("resolve: qualifier before the failure", () -> full.resolve(0, 10));
        CHECK.badState("resolve: the failure", () -> full.resolve(0, NONE));
    }

    private static void indexBeforeArgument() {
        description(ORDER);
        ComponentContainer c = with(SINGLETON);
        c.resolve(0, NONE);
        for (int missing : new int[] {-1, 1}) {
            CHECK.outOfBounds("set: component before property", () -> c.set(missing, 7, 1));
            CHECK.outOfBounds("set: component before value", () -> c.set(missing, TYPES, 0));
            CHECK.outOfBounds("property: component before property", () -> c.property(missing, 7));
            CHECK.outOfBounds("dependency: component before part", () -> c.dependency(missing, 0, 3));
            CHECK.outOfBounds("dependency: component before part, -1", () -> c.dependency(missing, -1, 3));
            CHECK.outOfBounds("injected: instance before index", () -> c.injected(missing, 0));
        }
        CHECK.badArgument("set: property", () -> c.set(0, 7, 1));
        CHECK.badArgument("set: value", () -> c.set(0, TYPES, 0));
        CHECK.badArgument("property: property", () -> c.property(0, 7));
        CHECK.badArgument("dependency: part", () -> c.dependency(0, 0, 3));
        CHECK.badArgument("injected: index", () -> c.injected(0, 0));
    }

    private static void indexAndArgumentBeforeState() {
        description(ORDER);
        ComponentContainer c = with(SINGLETON, SINGLETON);
        for (int index = 0; index < 6; index++) {
            need(c, 0, NOBODYS_TYPE, LATER);
        }
        c.resolve(0, NONE);
        c.close();
        for (int missing : new int[] {-1, 2}) {
            CHECK.outOfBounds("depend: component before type", () -> c.depend(missing, 16, NONE, LATER));
            CHECK.outOfBounds("depend: component before qualifier", () -> c.depend(missing, 0, 10, LATER));
            CHECK.outOfBounds("depend: component before mode", () -> c.depend(missing, 0, NONE, 4));
        }
        CHECK.badArgument("depend: type before 6 dependencies", () -> c.depend(0, 16, NONE, LATER));
        CHECK.badArgument("depend: qualifier before 6 dependencies", () -> c.depend(0, 0, 10, LATER));
        CHECK.badArgument("depend: mode before 6 dependencies", () -> c.depend(0, 0, NONE, 4));
        CHECK.badState("depend: 6 dependencies", () -> c.depend(0, 0, NONE, LATER));
        for (int missing : new int[] {-1, 1}) {
            CHECK.outOfBounds("provide: instance before index", () -> c.provide(missing, 6));
        }
        CHECK.badArgument("provide: index before a dead instance", () -> c.provide(0, 6));
        CHECK.badState("provide: a dead instance", () -> c.provide(0, 0));
        c.clear(0);
        need(c, 0, 1, REQUIRED);
        CHECK.badArgument("provide: mode before a dead instance", () -> c.provide(0, 0));
        CHECK.failure(c, "nothing is recorded", 0, NONE);
    }

    // ---- what a refused call leaves: all answers are those of an object without that call

    /** Makes the container that a call is refused on, each time the same. */
    private interface Preparation {
        ComponentContainer make();
    }

    /** A call that is refused. */
    private interface RefusedCall {
        void on(ComponentContainer c);
    }

    private static void leaves(String what, Preparation preparation, Class<?> due, RefusedCall call) {
        ComponentContainer c = preparation.make();
        Runnable refused = () -> call.on(c);
        if (due == IndexOutOfBoundsException.class) {
            CHECK.outOfBounds(what, refused);
        } else if (due == IllegalArgumentException.class) {
            CHECK.badArgument(what, refused);
        } else {
            CHECK.badState(what, refused);
        }
        CHECK.same("all answers after " + what, Answers.of(c), Answers.of(preparation.make()));
    }

    private static void noIndex(String what, Preparation preparation, RefusedCall call) {
        leaves(what, preparation, IndexOutOfBoundsException.class, call);
    }

    private static void noArgument(String what, Preparation preparation, RefusedCall call) {
        leaves(what, preparation, IllegalArgumentException.class, call);
    }

    private static void noState(String what, Preparation preparation, RefusedCall call) {
        leaves(what, preparation, IllegalStateException.class, call);
    }

    /** Four components, six instances of which five live, two open scopes, a profile that is on, a failure. */
    private static ComponentContainer inUse() {
        ComponentContainer c = with(SINGLETON, PROTOTYPE, SCOPED, SINGLETON);
        c.set(3, PROFILE, 7);
        c.profile(7, true);
        c.set(1, QUALIFIER, 9);
        need(c, 0, 1, REQUIRED);
        need(c, 0, 2, ALL);
        need(c, 0, 3, LATER);
        c.begin();
        c.resolve(0, NONE);
        c.begin();
        c.resolve(2, NONE);
        c.end();
        c.set(3, FAIL_AT, 0);
        resolveFails(c, "a failure", 3);
        c.begin();
        c.resolve(2, NONE);
        c.resolve(1, NONE);
        return c;
    }

    private static void refusedInUse() {
        description(LEAVES);
        noArgument("add(0, 0)", RefusedCallEdges::inUse, c -> c.add(0, SINGLETON));
        noArgument("add(1, 3)", RefusedCallEdges::inUse, c -> c.add(1, 3));
        noIndex("set(4, 2, 0)", RefusedCallEdges::inUse, c -> c.set(4, QUALIFIER, 0));
        noArgument("set(3, 7, 0)", RefusedCallEdges::inUse, c -> c.set(3, 7, 0));
        for (int property = 0; property < 7; property++) {
            int p = property;
            noArgument("set(0, " + p + ", 65536)", RefusedCallEdges::inUse, c -> c.set(0, p, 65536));
            noArgument("set(3, " + p + ", -2)", RefusedCallEdges::inUse, c -> c.set(3, p, -2));
        }
        noIndex("property(4, 0)", RefusedCallEdges::inUse, c -> c.property(4, TYPES));
        noArgument("property(0, 7)", RefusedCallEdges::inUse, c -> c.property(0, 7));
        noIndex("depend(4, 0, -1, 0)", RefusedCallEdges::inUse, c -> c.depend(4, 0, NONE, REQUIRED));
        noArgument("depend(0, 16, -1, 0)", RefusedCallEdges::inUse, c -> c.depend(0, 16, NONE, REQUIRED));
        noArgument("depend(0, 0, 10, 0)", RefusedCallEdges::inUse, c -> c.depend(0, 0, 10, REQUIRED));
        noArgument("depend(0, 0, -1, 4)", RefusedCallEdges::inUse, c -> c.depend(0, 0, NONE, 4));
        noIndex("clear(4)", RefusedCallEdges::inUse, c -> c.clear(4));
        noIndex("clear(-1)", RefusedCallEdges::inUse, c -> c.clear(-1));
        noIndex("dependency(4, 0, 0)", RefusedCallEdges::inUse, c -> c.dependency(4, 0, 0));
        noArgument("dependency(0, -1, 3)", RefusedCallEdges::inUse, c -> c.dependency(0, -1, 3));
        noArgument("profile(8, false)", RefusedCallEdges::inUse, c -> c.profile(8, false));
        noArgument("profile(-1, true)", RefusedCallEdges::inUse, c -> c.profile(-1, true));
        noArgument("profile(39, false)", RefusedCallEdges::inUse, c -> c.profile(39, false));
        noArgument("candidates(16, -1)", RefusedCallEdges::inUse, c -> c.candidates(16, NONE));
        noArgument("chosen(0, 10)", RefusedCallEdges::inUse, c -> c.chosen(0, 10));
        noIndex("problem(4)", RefusedCallEdges::inUse, c -> c.problem(4));
        noIndex("needs(4)", RefusedCallEdges::inUse, c -> c.needs(4));
        noArgument("resolve(16, -1)", RefusedCallEdges::inUse, c -> c.resolve(16, NONE));
        noArgument("resolve(1, 10)", RefusedCallEdges::inUse, c -> c.resolve(1, 10));
        noIndex("provide(6, 2)", RefusedCallEdges::inUse, c -> c.provide(6, 2));
        noArgument("provide(2, 1)", RefusedCallEdges::inUse, c -> c.provide(2, 1));
        noArgument("provide(2, 3)", RefusedCallEdges::inUse, c -> c.provide(2, 3));
        noIndex("componentOf(6)", RefusedCallEdges::inUse, c -> c.componentOf(6));
        noIndex("isAlive(-1)", RefusedCallEdges::inUse, c -> c.isAlive(-1));
        noIndex("injected(6, 0)", RefusedCallEdges::inUse, c -> c.injected(6, 0));
        noArgument("injected(2, 3)", RefusedCallEdges::inUse, c -> c.injected(2, 3));
    }

    /** As many components, dependencies of component 0 and open scopes as there can be, and a dead instance. */
    private static ComponentContainer full() {
        ComponentContainer c = twenty(SCOPED);
        c.set(19, TYPES, 2);
        for (int index = 0; index < 6; index++) {
            need(c, 19, 1, LATER);
        }
        c.begin();
        c.resolve(1, NONE);
        c.end();
        for (int open = 1; open <= 5; open++) {
            c.begin();
        }
        c.resolve(1, NONE);
        return c;
    }

    private static void refusedWhenFull() {
        description(LEAVES);
        noState("add(1, 0) as the 21st", RefusedCallEdges::full, c -> c.add(1, SINGLETON));
        noArgument("add(0, 0) as the 21st", RefusedCallEdges::full, c -> c.add(0, SINGLETON));
        noState("depend(19, ..) as the seventh", RefusedCallEdges::full, c -> c.depend(19, 0, NONE, REQUIRED));
        noState("begin() as the sixth", RefusedCallEdges::full, c -> c.begin());
        noState("provide(0, 0) of a dead instance", RefusedCallEdges::full, c -> c.provide(0, 0));
        noIndex("clear(20)", RefusedCallEdges::full, c -> c.clear(20));
        noIndex("set(20, 0, 1)", RefusedCallEdges::full, c -> c.set(20, TYPES, 1));
    }

    private static void refusedWhenEmpty() {
        description(LEAVES);
        noState("end()", ComponentContainer::new, c -> c.end());
        noIndex("set(0, 0, 1)", ComponentContainer::new, c -> c.set(0, TYPES, 1));
        noIndex("depend(0, 0, -1, 0)", ComponentContainer::new, c -> c.depend(0, 0, NONE, REQUIRED));
        noIndex("clear(0)", ComponentContainer::new, c -> c.clear(0));
        noIndex("provide(0, 0)", ComponentContainer::new, c -> c.provide(0, 0));
        noArgument("add(65536, 0)", ComponentContainer::new, c -> c.add(65536, SINGLETON));
        noArgument("resolve(16, -1)", ComponentContainer::new, c -> c.resolve(16, NONE));
        noArgument("profile(8, true)", ComponentContainer::new, c -> c.profile(8, true));
    }

    /** A failed request whose failure is already the recorded one changes nothing but what it completes. */
    private static void failedRequestLeavesTheRest() {
        description(LEAVES);
        noState("resolve(3, -1)", RefusedCallEdges::inUse, c -> c.resolve(3, NONE));
        noState("provide(2, 2)", RefusedCallEdges::inUse, c -> c.provide(2, 2));
        noState("start()", RefusedCallEdges::inUse, c -> c.start());
    }
}
