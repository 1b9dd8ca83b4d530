/** Edges of promises 14 to 19: resolve, provide, start, begin, end and close. */
final class CallEdges extends Edges {
    private static final String LATER_TYPE = "Requests the type of a LATER dependency of the component of an instance,"
            + " with the qualifier of the dependency, as the dependencies are now.";
    private static final String NOT_LATER = "Throws `IllegalArgumentException` if the component has no dependency with"
            + " this number, or its mode is not LATER";
    private static final String NOT_PROVIDED = "Throws `IllegalStateException` if the instance (the first one) is not"
            + " alive, or if the request fails; in the first case nothing is recorded";
    private static final String STARTED = "Obtains an instance of each active SINGLETON component that is not LAZY, by"
            + " ascending numbers, until one fails.";
    private static final String END = "Closes the innermost open scope: the instances that belong to it are destroyed,"
            + " in reverse order of their completion.";
    private static final String CLOSE = "Closes all open scopes, the innermost one first, and then destroys all living"
            + " instances of SINGLETON components (those that were constructed as such), in reverse order of their"
            + " completion.";
    private static final String DESTROYED = "Returns how many instances were destroyed.";

    static void run() {
        resolve();
        resolveNumbers();
        resolveArguments();
        resolveFailures();
        provide();
        provideAsTheyAreNow();
        provideIndex();
        provideNumbers();
        provideNoInstance();
        provideNotLater();
        provideNotAlive();
        provideFails();
        startedOnes();
        startOrder();
        startUntilOneFails();
        startCounts();
        startFails();
        begin();
        beginRefused();
        endInnermost();
        endCounts();
        endRefused();
        closeOrder();
        closeSingletonsAlone();
        closeUsedFurther();
        closeCounts();
    }

    // ---- Promise 14

    private static void resolve() {
        promise(14, "Requests a type with a qualifier.");
        ComponentContainer c = twenty(SINGLETON);
        c.set(0, TYPES, 32768);
        c.set(0, QUALIFIER, 9);
        c.set(19, QUALIFIER, 0);
        CHECK.same("type 15, any qualifier", c.componentOf(c.resolve(15, -1)), 0);
        CHECK.same("type 15, qualifier 9", c.resolve(15, 9), 0);
        CHECK.same("type 0, qualifier 0", c.componentOf(c.resolve(0, 0)), 19);
        CHECK.badState("type 0, qualifier 9", () -> c.resolve(0, 9));
        CHECK.badState("type 15, qualifier 0", () -> c.resolve(15, 0));
        CHECK.badState("type 0, any qualifier", () -> c.resolve(0, -1));
        CHECK.same("two were completed", c.instances(), 2);
    }

    private static void resolveNumbers() {
        promise(14, "Returns the number of the instance.");
        ComponentContainer c = holding(0, SINGLETON, PROTOTYPE, SCOPED);
        c.begin();
        CHECK.same("the first", c.resolve(2, NONE), 0);
        need(c, 0, 1, REQUIRED);
        CHECK.same("not that of its dependency", c.resolve(0, NONE), 2);
        CHECK.same("the existing one, not the last one", c.resolve(2, NONE), 0);
        ComponentContainer last = holding(299, SINGLETON);
        CHECK.same("the 300th", last.resolve(0, NONE), 299);
        CHECK.same("the 300th again", last.resolve(0, NONE), 299);
    }

    private static void resolveArguments() {
        promise(14, "Throws `IllegalArgumentException` if type is not 0 to 15 or qualifier is not -1 to 9");
        ComponentContainer empty = new ComponentContainer();
        refusesOutside("no component, type", 0, 15, type -> empty.resolve(type, NONE));
        refusesOutside("no component, qualifier", -1, 9, qualifier -> empty.resolve(0, qualifier));
        ComponentContainer c = new ComponentContainer();
        c.add(65535, SINGLETON);
        refusesOutside("type", 0, 15, type -> c.resolve(type, NONE));
        refusesOutside("qualifier", -1, 9, qualifier -> c.resolve(0, qualifier));
        refusesOutside("type with qualifier 9", 0, 15, type -> c.resolve(type, 9));
        CHECK.same("nothing is completed", c.instances(), 0);
        c.set(0, QUALIFIER, 9);
        CHECK.same("type 15, qualifier 9", c.resolve(15, 9), 0);
        CHECK.same("type 0, qualifier -1", c.resolve(0, -1), 0);
    }

    private static void resolveFailures() {
        promise(14, "Throws `IllegalStateException` if this fails");
        ComponentContainer c = holding(299, SINGLETON, SCOPED, PROTOTYPE, PROTOTYPE);
        resolveFails(c, "NO_CANDIDATE", NOBODYS_TYPE);
        CHECK.same("NO_CANDIDATE", c.failureKind(), NO_CANDIDATE);
        resolveFails(c, "NO_SCOPE", 1);
        CHECK.same("NO_SCOPE", c.failureKind(), NO_SCOPE);
        c.set(2, FAIL_AT, 0);
        resolveFails(c, "BROKEN", 2);
        CHECK.same("BROKEN", c.failureKind(), BROKEN);
        c.set(3, TYPES, 4);
        resolveFails(c, "AMBIGUOUS", 2);
        CHECK.same("AMBIGUOUS", c.failureKind(), AMBIGUOUS);
        need(c, 0, 0, REQUIRED);
        resolveFails(c, "CYCLE", 0);
        CHECK.same("CYCLE", c.failureKind(), CYCLE);
        c.clear(0);
        CHECK.same("the 300th", c.resolve(0, NONE), 299);
        c.set(3, TYPES, 8);
        resolveFails(c, "LIMIT", 3);
        CHECK.same("LIMIT", c.failureKind(), LIMIT);
    }

    // ---- Promise 15

    private static void provide() {
        promise(15, LATER_TYPE);
        ComponentContainer c = with(SINGLETON, PROTOTYPE, SINGLETON, SCOPED);
        c.set(2, TYPES, 2);
        c.set(2, QUALIFIER, 9);
        c.depend(0, 1, 9, LATER);
        c.depend(0, 1, NONE, LATER);
        c.depend(0, 3, NONE, LATER);
        c.resolve(0, NONE);
        CHECK.same("by the qualifier", c.componentOf(c.provide(0, 0)), 2);
        CHECK.badState("any qualifier", () -> c.provide(0, 1));
        CHECK.failure(c, "any qualifier", AMBIGUOUS, 1);
        CHECK.badState("no scope", () -> c.provide(0, 2));
        CHECK.failure(c, "no scope", NO_SCOPE, 3);
        c.begin();
        CHECK.same("the scope that is open now", c.provide(0, 2), 2);
        c.begin();
        CHECK.same("the innermost scope", c.provide(0, 2), 3);
        CHECK.same("it belongs to it", c.end(), 1);
    }

    private static void provideAsTheyAreNow() {
        promise(15, LATER_TYPE);
        ComponentContainer c = with(SINGLETON, PROTOTYPE, SINGLETON);
        c.resolve(0, NONE);
        CHECK.badArgument("no dependency yet", () -> c.provide(0, 0));
        need(c, 0, 1, LATER);
        CHECK.same("added since", c.provide(0, 0), 1);
        c.clear(0);
        CHECK.badArgument("removed since", () -> c.provide(0, 0));
        need(c, 0, 2, LATER);
        CHECK.same("another one since", c.componentOf(c.provide(0, 0)), 2);
        c.set(2, TYPES, 8);
        CHECK.badState("no candidate since", () -> c.provide(0, 0));
        c.set(0, PROFILE, 0);
        c.set(0, SCOPE, SCOPED);
        c.set(0, TYPES, 4);
        CHECK.badState("its own component is inactive", () -> c.provide(0, 0));
        c.set(1, TYPES, 4);
        CHECK.same("of an instance whose component is inactive", c.provide(0, 0), 3);
    }

    private static void provideIndex() {
        promise(15, "`index`: number of the dependency");
        ComponentContainer c = with(SINGLETON, PROTOTYPE, PROTOTYPE, PROTOTYPE, PROTOTYPE, PROTOTYPE, PROTOTYPE);
        for (int index = 0; index < 6; index++) {
            need(c, 0, index + 1, LATER);
        }
        c.resolve(0, NONE);
        for (int index = 5; index >= 0; index--) {
            CHECK.same("number " + index, c.componentOf(c.provide(0, index)), index + 1);
        }
    }

    private static void provideNumbers() {
        promise(15, "Returns the number of the instance that is obtained.");
        ComponentContainer c = holding(298, SINGLETON, PROTOTYPE);
        need(c, 0, 0, LATER);
        need(c, 0, 1, LATER);
        CHECK.same("resolve", c.resolve(0, NONE), 298);
        CHECK.same("the instance itself", c.provide(298, 0), 298);
        CHECK.same("the 300th", c.provide(298, 1), 299);
        CHECK.badState("the 301st", () -> c.provide(298, 1));
        CHECK.failure(c, "the 301st", LIMIT, 1, 1);
        CHECK.same("an existing one with 300", c.provide(298, 0), 298);
        ComponentContainer zero = with(SINGLETON);
        need(zero, 0, 0, LATER);
        zero.resolve(0, NONE);
        CHECK.same("instance 0", zero.provide(0, 0), 0);
    }

    private static void provideNoInstance() {
        promise(15, "Throws `IndexOutOfBoundsException` if there is no such instance");
        ComponentContainer c = with(SINGLETON);
        need(c, 0, 0, LATER);
        findsNothingOutside("provide", 0, instance -> c.provide(instance, 0));
        c.resolve(0, NONE);
        findsNothingOutside("provide", 1, instance -> c.provide(instance, 0));
        ComponentContainer full = holding(299, SINGLETON);
        need(full, 0, 0, LATER);
        full.resolve(0, NONE);
        findsNothingOutside("provide", 300, instance -> full.provide(instance, 0));
        CHECK.same("the last one", full.provide(299, 0), 299);
    }

    private static void provideNotLater() {
        promise(15, NOT_LATER);
        ComponentContainer c = with(SINGLETON, PROTOTYPE);
        c.resolve(0, NONE);
        for (int held = 0; held <= 6; held++) {
            refusesOutside("with " + held + " dependencies, provide", 0, held - 1, index -> c.provide(0, index));
            int last = held - 1;
            if (last >= 0) {
                CHECK.throwsNothing("the last of " + held, () -> c.provide(0, last));
            }
            if (held < 6) {
                need(c, 0, 1, LATER);
            }
        }
        for (int mode = REQUIRED; mode <= ALL; mode++) {
            c.clear(0);
            need(c, 0, 1, mode);
            need(c, 0, 1, LATER);
            CHECK.badArgument("mode " + mode, () -> c.provide(0, 0));
            CHECK.throwsNothing("LATER behind it", () -> c.provide(0, 1));
        }
        CHECK.failure(c, "nothing is recorded", 0, NONE);
    }

    private static void provideNotAlive() {
        promise(15, NOT_PROVIDED);
        ComponentContainer c = with(SINGLETON, PROTOTYPE, SCOPED);
        c.set(1, TYPES, 6);
        c.set(2, TYPES, 8);
        for (int component = 0; component < 3; component++) {
            need(c, component, 1, LATER);
            need(c, component, NOBODYS_TYPE, LATER);
        }
        c.begin();
        c.resolve(0, NONE);
        c.resolve(3, NONE);
        CHECK.same("the SINGLETON is alive", c.provide(0, 0), 2);
        CHECK.same("the SCOPED one is alive", c.provide(1, 0), 3);
        c.close();
        for (int instance = 0; instance <= 1; instance++) {
            int dead = instance;
            CHECK.badState("not alive", () -> c.provide(dead, 0));
            CHECK.badState("not alive, and there is no candidate", () -> c.provide(dead, 1));
        }
        CHECK.failure(c, "nothing is recorded", 0, NONE);
        CHECK.events(c, "nothing is completed", 0, 2, 4, 6, 3, 1);
        CHECK.same("that of a PROTOTYPE is alive", c.provide(2, 0), 4);
        c.resolve(0, NONE);
        CHECK.badState("the new SINGLETON does not revive the old one", () -> c.provide(0, 0));
    }

    private static void provideFails() {
        promise(15, NOT_PROVIDED);
        ComponentContainer c = with(SINGLETON, PROTOTYPE, PROTOTYPE);
        need(c, 0, 1, LATER);
        need(c, 0, NOBODYS_TYPE, LATER);
        need(c, 1, 2, REQUIRED);
        need(c, 1, NOBODYS_TYPE, REQUIRED);
        c.resolve(0, NONE);
        CHECK.badState("the request fails at once", () -> c.provide(0, 1));
        CHECK.failure(c, "the first one is not in the chain", NO_CANDIDATE, NOBODYS_TYPE);
        CHECK.badState("the request fails later", () -> c.provide(0, 0));
        CHECK.failure(c, "only what the request constructs is", NO_CANDIDATE, NOBODYS_TYPE, 1);
        CHECK.events(c, "its PROTOTYPE is destroyed", 0, 2, 3);
        CHECK.same("the first one is alive", c.isAlive(0), true);
        c.clear(1);
        CHECK.same("then it succeeds", c.provide(0, 0), 2);
        CHECK.failure(c, "the failure stays", NO_CANDIDATE, NOBODYS_TYPE, 1);
    }

    // ---- Promise 16

    private static void startedOnes() {
        promise(16, STARTED);
        CHECK.same("no component", new ComponentContainer().start(), 0);
        ComponentContainer c = with(PROTOTYPE, SCOPED, SINGLETON, SINGLETON, SINGLETON);
        c.set(2, LAZY, 1);
        c.set(3, PROFILE, 7);
        c.set(4, LAZY, 1);
        c.set(4, PROFILE, 7);
        CHECK.same("none of them", c.start(), 0);
        c.profile(7, true);
        CHECK.same("active now", c.start(), 1);
        CHECK.same("the one that is not LAZY", c.componentOf(0), 3);
        c.set(2, LAZY, 0);
        CHECK.same("not LAZY now", c.start(), 1);
        CHECK.same("that one", c.componentOf(1), 2);
        c.set(0, SCOPE, SINGLETON);
        c.set(0, LAZY, 1);
        CHECK.same("a SINGLETON now, but LAZY", c.start(), 0);
        c.set(0, LAZY, 0);
        CHECK.same("a SINGLETON now", c.start(), 1);
        need(c, 1, 4, REQUIRED);
        c.set(1, SCOPE, SINGLETON);
        CHECK.same("a LAZY one that is needed", c.start(), 2);
        CHECK.same("the LAZY one", c.componentOf(3), 4);
    }

    private static void startOrder() {
        promise(16, STARTED);
        ComponentContainer c = twenty(SINGLETON);
        CHECK.same("20", c.start(), 20);
        for (int instance = 0; instance < 20; instance++) {
            CHECK.same("by ascending numbers", c.componentOf(instance), instance);
        }
        ComponentContainer needing = with(SINGLETON, SINGLETON, SINGLETON);
        need(needing, 0, 2, REQUIRED);
        CHECK.same("3", needing.start(), 3);
        CHECK.same("the needed one first", needing.componentOf(0), 2);
        CHECK.same("then the first one", needing.componentOf(1), 0);
        CHECK.same("then the second one", needing.componentOf(2), 1);
    }

    private static void startUntilOneFails() {
        promise(16, STARTED);
        for (int failing = 0; failing < 20; failing++) {
            ComponentContainer c = twenty(SINGLETON);
            c.set(failing, FAIL_AT, 0);
            c.set(19, FAIL_AT, 0);
            CHECK.badState("start()", () -> c.start());
            CHECK.failure(c, "the first that fails", BROKEN, failing, failing);
            CHECK.same("those before it were completed", c.instances(), failing);
            c.set(failing, FAIL_AT, -1);
            c.set(19, FAIL_AT, -1);
            CHECK.same("those before it stay", c.start(), 20 - failing);
        }
    }

    private static void startCounts() {
        promise(16, "Returns how many instances (of all components) were completed by this call.");
        ComponentContainer c = with(SINGLETON, PROTOTYPE, SCOPED, SINGLETON);
        c.set(3, LAZY, 1);
        need(c, 0, 1, REQUIRED);
        need(c, 0, 1, REQUIRED);
        need(c, 0, 2, REQUIRED);
        need(c, 0, 3, REQUIRED);
        c.begin();
        c.resolve(1, NONE);
        CHECK.same("of all components", c.start(), 5);
        CHECK.same("none again", c.start(), 0);
        c.close();
        c.begin();
        c.resolve(2, NONE);
        c.resolve(3, NONE);
        CHECK.same("without those that exist", c.start(), 3);
        ComponentContainer full = holding(280);
        full.set(1, SCOPE, SINGLETON);
        full.clear(1);
        CHECK.same("one", full.start(), 1);
        ComponentContainer limit = twenty(SINGLETON);
        for (int round = 0; round < 15; round++) {
            CHECK.same("20 up to the 300th", limit.start(), 20);
            limit.close();
        }
    }

    private static void startFails() {
        promise(16, "Throws `IllegalStateException` if one fails");
        ComponentContainer c = with(SINGLETON, PROTOTYPE, SINGLETON, SINGLETON);
        need(c, 0, 1, REQUIRED);
        need(c, 2, 1, REQUIRED);
        need(c, 2, NOBODYS_TYPE, REQUIRED);
        CHECK.badState("start()", () -> c.start());
        CHECK.failure(c, "start()", NO_CANDIDATE, NOBODYS_TYPE, 2);
        CHECK.events(c, "all PROTOTYPES of the call are destroyed", 0, 2, 4, 5, 1);
        CHECK.badState("start() again", () -> c.start());
        CHECK.same("the SINGLETON stays", c.resolve(0, NONE), 1);
        c.set(2, LAZY, 1);
        CHECK.same("the failing one is LAZY", c.start(), 1);
        ComponentContainer limit = holding(299, SINGLETON, SINGLETON);
        CHECK.badState("LIMIT", () -> limit.start());
        CHECK.failure(limit, "LIMIT", LIMIT, 1, 1);
        limit.set(1, LAZY, 1);
        CHECK.same("a living one with 300", limit.start(), 0);
    }

    // ---- Promise 17

    private static void begin() {
        promise(17, "Opens a scope within the innermost open one.");
        ComponentContainer c = with(SCOPED);
        for (int open = 1; open <= 5; open++) {
            c.begin();
            CHECK.same("without instances at first", c.resolve(0, NONE), open - 1);
        }
        for (int open = 5; open >= 1; open--) {
            CHECK.same("it ends before the outer one", c.end() + c.instances(), 6);
            CHECK.same("the outer one's is alive", open == 1 || c.isAlive(open - 2), true);
            CHECK.same("its own is not", c.isAlive(open - 1), false);
        }
        promise(17, "Returns how many scopes are open then.");
        for (int open = 1; open <= 5; open++) {
            CHECK.same("begin()", c.begin(), open);
        }
        c.end();
        CHECK.same("the fifth again", c.begin(), 5);
        c.close();
        CHECK.same("the first again", c.begin(), 1);
    }

    private static void beginRefused() {
        promise(17, "Throws `IllegalStateException` if 5 scopes are open");
        ComponentContainer c = with(SCOPED);
        for (int open = 1; open <= 5; open++) {
            CHECK.throwsNothing("scope " + open, () -> c.begin());
        }
        c.resolve(0, NONE);
        CHECK.badState("a sixth", () -> c.begin());
        CHECK.badState("a sixth again", () -> c.begin());
        CHECK.same("the fifth is innermost", c.resolve(0, NONE), 0);
        CHECK.failure(c, "nothing is recorded", 0, NONE);
        CHECK.same("end() of the fifth", c.end(), 1);
        CHECK.same("a fifth", c.begin(), 5);
        for (int open = 5; open >= 1; open--) {
            CHECK.same("end()", c.end(), 0);
        }
        CHECK.badState("five were open", () -> c.end());
    }

    // ---- Promise 18

    private static void endInnermost() {
        promise(18, END);
        ComponentContainer c = with(SCOPED, SCOPED, SCOPED, SINGLETON, PROTOTYPE);
        c.begin();
        c.resolve(2, NONE);
        c.begin();
        c.resolve(1, NONE);
        c.resolve(3, NONE);
        c.resolve(2, NONE);
        c.resolve(4, NONE);
        c.resolve(0, NONE);
        c.end();
        CHECK.events(c, "those of the innermost one alone", 0, 2, 4, 6, 8, 10, 11, 7, 3);
        CHECK.same("the outer one's is alive", c.isAlive(0), true);
        CHECK.same("the SINGLETON is alive", c.isAlive(2), true);
        CHECK.same("that of the PROTOTYPE is alive", c.isAlive(4), true);
        CHECK.same("the outer one is innermost", c.resolve(2, NONE), 0);
        c.resolve(1, NONE);
        c.set(2, SCOPE, SINGLETON);
        c.end();
        CHECK.events(c, "also what was SCOPED then", 0, 2, 4, 6, 8, 10, 11, 7, 3, 12, 13, 1);
        c.begin();
        c.resolve(3, NONE);
        c.set(3, SCOPE, SCOPED);
        c.end();
        CHECK.same("not what was a SINGLETON then", c.isAlive(2), true);
    }

    private static void endCounts() {
        promise(18, DESTROYED);
        ComponentContainer c = twenty(SCOPED);
        c.set(0, TYPES, 2);
        need(c, 0, 0, ALL);
        c.begin();
        CHECK.same("of no instance", c.end(), 0);
        c.begin();
        c.resolve(1, NONE);
        c.begin();
        CHECK.same("of none but the outer one's", c.end(), 0);
        CHECK.same("of all 20", c.end(), 20);
        c.begin();
        c.resolve(1, NONE);
        CHECK.same("without those of before", c.end(), 20);
        CHECK.same("all events", c.event(-1), 80);
        ComponentContainer others = with(SINGLETON, PROTOTYPE, SCOPED);
        others.begin();
        for (int component = 0; component < 3; component++) {
            others.resolve(component, NONE);
        }
        CHECK.same("of one that belongs to it", others.end(), 1);
    }

    private static void endRefused() {
        promise(18, "Throws `IllegalStateException` if no scope is open");
        ComponentContainer c = with(SINGLETON, PROTOTYPE);
        CHECK.badState("at first", () -> c.end());
        c.resolve(0, NONE);
        c.resolve(1, NONE);
        CHECK.badState("though instances live", () -> c.end());
        CHECK.events(c, "nothing is destroyed", 0, 2);
        CHECK.same("one is opened, not two", c.begin(), 1);
        CHECK.same("it is closed", c.end(), 0);
        CHECK.badState("after it", () -> c.end());
        c.begin();
        c.begin();
        c.close();
        CHECK.badState("after close()", () -> c.end());
        CHECK.failure(c, "nothing is recorded", 0, NONE);
    }

    // ---- Promise 19

    private static void closeOrder() {
        promise(19, CLOSE);
        ComponentContainer c = with(SCOPED, SCOPED, SINGLETON, SINGLETON);
        c.resolve(3, NONE);
        for (int open = 1; open <= 5; open++) {
            c.begin();
            c.resolve(0, NONE);
            c.resolve(1, NONE);
        }
        c.resolve(2, NONE);
        c.close();
        CHECK.same("all are destroyed", c.event(-1), 24);
        for (int i = 0; i < 10; i++) {
            CHECK.same("the innermost one first, in reverse order", c.event(12 + i), 2 * (10 - i) + 1);
        }
        CHECK.same("then the last SINGLETON", c.event(22), 23);
        CHECK.same("then the first SINGLETON", c.event(23), 1);
        ComponentContainer inner = with(SCOPED, SCOPED);
        inner.begin();
        inner.begin();
        inner.resolve(0, NONE);
        inner.end();
        inner.resolve(1, NONE);
        inner.begin();
        inner.resolve(0, NONE);
        inner.close();
        CHECK.events(inner, "not again what is destroyed", 0, 1, 2, 4, 5, 3);
    }

    private static void closeSingletonsAlone() {
        promise(19, CLOSE);
        ComponentContainer c = with(SINGLETON, PROTOTYPE, SINGLETON);
        c.resolve(0, NONE);
        c.resolve(1, NONE);
        c.resolve(2, NONE);
        c.set(0, SCOPE, PROTOTYPE);
        c.set(1, SCOPE, SINGLETON);
        c.set(2, PROFILE, 0);
        c.close();
        CHECK.events(c, "those that were constructed as such", 0, 2, 4, 5, 1);
        CHECK.same("not the other one", c.isAlive(1), true);
        c.close();
        CHECK.same("not the other one later", c.isAlive(1), true);
        CHECK.same("which is no SINGLETON's", c.resolve(1, NONE), 3);
    }

    private static void closeUsedFurther() {
        promise(19, "Everything can be used further.");
        ComponentContainer c = with(SINGLETON, PROTOTYPE, SCOPED);
        need(c, 0, 1, REQUIRED);
        need(c, 1, 0, LATER);
        c.set(1, QUALIFIER, 4);
        c.profile(3, true);
        resolveFails(c, "a failure", NOBODYS_TYPE);
        c.resolve(0, NONE);
        c.begin();
        c.close();
        CHECK.same("components", c.components(), 3);
        CHECK.same("dependencies", c.dependency(0, -1, 0), 1);
        CHECK.same("properties", c.property(1, QUALIFIER), 4);
        CHECK.same("profiles", c.profile(3, true), true);
        CHECK.same("what was injected", c.injected(1, 0), 0);
        CHECK.failure(c, "the failure", NO_CANDIDATE, NOBODYS_TYPE);
        CHECK.events(c, "the events", 0, 2, 3);
        CHECK.same("a new SINGLETON", c.resolve(0, NONE), 3);
        CHECK.same("that of a PROTOTYPE", c.provide(0, 0), 3);
        CHECK.same("a new scope", c.begin(), 1);
        CHECK.same("a new SCOPED one", c.resolve(2, NONE), 4);
        CHECK.same("a new component", c.add(1, SINGLETON), 3);
        CHECK.same("start()", c.start(), 1);
        CHECK.same("close()", c.close(), 3);
        CHECK.same("nothing is left", c.close(), 0);
    }

    private static void closeCounts() {
        promise(19, DESTROYED);
        CHECK.same("nothing", new ComponentContainer().close(), 0);
        ComponentContainer c = with(SINGLETON, PROTOTYPE, SCOPED);
        CHECK.same("no instance", c.close(), 0);
        c.begin();
        c.begin();
        CHECK.same("scopes without instances", c.close(), 0);
        c.resolve(1, NONE);
        CHECK.same("that of a PROTOTYPE alone", c.close(), 0);
        c.resolve(0, NONE);
        CHECK.same("a SINGLETON without a scope", c.close(), 1);
        for (int open = 1; open <= 5; open++) {
            c.begin();
            c.resolve(0, NONE);
            c.resolve(1, NONE);
            c.resolve(2, NONE);
        }
        CHECK.same("5 of scopes and a SINGLETON", c.close(), 6);
        CHECK.same("nothing is left", c.close(), 0);
        ComponentContainer all = twenty(SINGLETON);
        all.start();
        CHECK.same("all 20", all.close(), 20);
    }
}
