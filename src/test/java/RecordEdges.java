import java.util.Arrays;

/** Edges of the Description's FAILURES and EVENTS, and of promises 20 to 27. */
final class RecordEdges extends Edges {
    private static final String FAILS = "If something fails in resolve(), provide() or start(), everything that is being"
            + " constructed at this moment fails, too, the call throws an IllegalStateException, and the failure is"
            + " recorded: its kind (NO_CANDIDATE, AMBIGUOUS, CYCLE, NO_SCOPE, LIMIT or BROKEN); its detail, which is the"
            + " type that was requested for NO_CANDIDATE and AMBIGUOUS, and otherwise the component whose instance could"
            + " not be obtained or constructed; and its chain, the components whose instances were being constructed, the"
            + " outermost one first (for LIMIT and BROKEN the component itself is the last one; for CYCLE the detail is a"
            + " component of the chain).";
    private static final String PROTOTYPES_DESTROYED = "The instances of PROTOTYPE components that were completed during"
            + " this call are destroyed, in reverse order of their completion.";
    private static final String OTHERS_STAY = "Others that were completed during the call stay.";
    private static final String FAILURE_STAYS = "A recorded failure stays until the next one is recorded.";
    private static final String EVENTS = "The completion of an instance and its destruction are events; they are"
            + " recorded in their order, numbered from 0.";
    private static final String CODES =
            "The code of an event is 2 * (number of the instance), plus 1 if it is a destruction.";
    private static final String NO_SUCH_INSTANCE = "Throws `IndexOutOfBoundsException` if there is no such instance";
    private static final String NO_DEPENDENCY_THEN =
            "Throws `IllegalArgumentException` if the component had no dependency with this number then";

    static void run() {
        failuresFromOutside();
        failuresBelowOthers();
        failuresBelowTwenty();
        constructingFailsToo();
        failuresOfEachCall();
        prototypesDestroyed();
        prototypesOfThisCallAlone();
        othersStay();
        failureStays();
        eventsInOrder();
        codes();
        instances();
        componentOf();
        isAlive();
        injectedThen();
        injectedOfModes();
        injectedIndex();
        injectedRefused();
        event();
        failureKind();
        failureDetail();
        failureChain();
    }

    // ---- Description

    /** A container in which the request of each of the types 0 to 5 fails with the kind of the type, plus 1. */
    private static ComponentContainer failing() {
        ComponentContainer c = holding(299, SCOPED, SINGLETON, SINGLETON, SCOPED, SINGLETON, SINGLETON);
        c.set(0, PROFILE, 0);
        c.add(2, SINGLETON);
        need(c, 2, 2, REQUIRED);
        c.set(5, FAIL_AT, 0);
        return c;
    }

    private static void failuresFromOutside() {
        description(FAILS);
        ComponentContainer c = failing();
        resolveFails(c, "no candidate", 0);
        CHECK.failure(c, "no candidate", NO_CANDIDATE, 0);
        resolveFails(c, "ambiguous", 1);
        CHECK.failure(c, "ambiguous", AMBIGUOUS, 1);
        resolveFails(c, "cycle", 2);
        CHECK.failure(c, "cycle", CYCLE, 2, 2);
        resolveFails(c, "no scope", 3);
        CHECK.failure(c, "no scope", NO_SCOPE, 3);
        resolveFails(c, "broken", 5);
        CHECK.failure(c, "broken", BROKEN, 5, 5);
        c.resolve(14, NONE);
        resolveFails(c, "limit", 4);
        CHECK.failure(c, "limit", LIMIT, 4, 4);
        ComponentContainer ends = new ComponentContainer();
        resolveFails(ends, "the last type", 15);
        CHECK.failure(ends, "the last type", NO_CANDIDATE, 15);
    }

    private static void failuresBelowOthers() {
        description(FAILS);
        int[][] due = {{NO_CANDIDATE, 0}, {AMBIGUOUS, 1}, {CYCLE, 2}, {NO_SCOPE, 3}, {LIMIT, 4}, {BROKEN, 5}};
        for (int type = 0; type <= 5; type++) {
            ComponentContainer c = failing();
            if (type == 4) {
                c.resolve(14, NONE);
            }
            int outer = c.add(1 << 6, PROTOTYPE);
            int inner = c.add(1 << 7, SINGLETON);
            need(c, outer, 7, REQUIRED);
            need(c, inner, type, REQUIRED);
            resolveFails(c, "below two", 6);
            if (due[type][0] == NO_CANDIDATE || due[type][0] == AMBIGUOUS || due[type][0] == NO_SCOPE) {
                CHECK.failure(c, "below two", due[type][0], due[type][1], outer, inner);
            } else {
                CHECK.failure(c, "below two", due[type][0], due[type][1], outer, inner, type);
            }
        }
        ComponentContainer c = with(PROTOTYPE, PROTOTYPE, PROTOTYPE);
        need(c, 0, 1, REQUIRED);
        need(c, 1, 2, REQUIRED);
        need(c, 2, 1, REQUIRED);
        resolveFails(c, "a cycle further in", 0);
        CHECK.failure(c, "a cycle further in", CYCLE, 1, 0, 1, 2);
    }

    private static void failuresBelowTwenty() {
        description(FAILS);
        int[] chain = new int[20];
        for (int i = 0; i < 20; i++) {
            chain[i] = i;
        }
        ComponentContainer c = chainOfTwenty(SINGLETON);
        c.depend(19, 15, NONE, REQUIRED);
        CHECK.badState("below 20", () -> c.resolve(0, 0));
        CHECK.failure(c, "no candidate below 20", NO_CANDIDATE, 15, chain);
        c.clear(19);
        c.depend(19, 1, NONE, REQUIRED);
        CHECK.badState("below 20", () -> c.resolve(0, 0));
        CHECK.failure(c, "ambiguous below 20", AMBIGUOUS, 1, chain);
        c.clear(19);
        c.set(19, FAIL_AT, 0);
        CHECK.badState("the 20th", () -> c.resolve(0, 0));
        CHECK.failure(c, "the 20th is broken", BROKEN, 19, chain);
        c.set(19, SCOPE, SCOPED);
        CHECK.badState("the 20th", () -> c.resolve(0, 0));
        CHECK.failure(c, "the 20th without a scope", NO_SCOPE, 19, Arrays.copyOf(chain, 19));
    }

    private static void constructingFailsToo() {
        description(FAILS);
        ComponentContainer c = with(SINGLETON, SCOPED, PROTOTYPE, SINGLETON);
        need(c, 0, 1, REQUIRED);
        need(c, 1, 2, REQUIRED);
        need(c, 2, 3, REQUIRED);
        c.begin();
        c.set(3, FAIL_AT, 0);
        resolveFails(c, "the innermost one fails", 0);
        CHECK.same("none is completed", c.instances() + c.event(-1), 0);
        c.set(3, FAIL_AT, -1);
        c.set(0, FAIL_AT, 0);
        resolveFails(c, "the outermost one fails", 0);
        CHECK.same("the others are completed", c.instances(), 3);
        c.set(0, FAIL_AT, -1);
        for (int type = 3; type >= 0; type--) {
            int asked = type;
            CHECK.throwsNothing("none is under construction any more", () -> c.resolve(asked, NONE));
        }
    }

    private static void failuresOfEachCall() {
        description(FAILS);
        ComponentContainer c = with(SINGLETON, SINGLETON, SINGLETON);
        need(c, 0, 1, LATER);
        c.resolve(0, NONE);
        c.set(1, FAIL_AT, 0);
        resolveFails(c, "resolve()", 1);
        CHECK.failure(c, "resolve()", BROKEN, 1, 1);
        need(c, 2, NOBODYS_TYPE, REQUIRED);
        c.set(1, LAZY, 1);
        CHECK.badState("start()", () -> c.start());
        CHECK.failure(c, "start()", NO_CANDIDATE, NOBODYS_TYPE, 2);
        need(c, 1, 1, OPTIONAL);
        CHECK.badState("provide()", () -> c.provide(0, 0));
        CHECK.failure(c, "provide()", CYCLE, 1, 1);
    }

    private static void prototypesDestroyed() {
        description(PROTOTYPES_DESTROYED);
        ComponentContainer c = with(PROTOTYPE, PROTOTYPE, SINGLETON, PROTOTYPE);
        need(c, 0, 1, REQUIRED);
        need(c, 0, 2, REQUIRED);
        need(c, 0, 3, REQUIRED);
        need(c, 2, 1, REQUIRED);
        need(c, 3, 1, ALL);
        c.set(0, FAIL_AT, 0);
        resolveFails(c, "the last one fails", 0);
        CHECK.events(c, "also what was injected into one that stays", 0, 2, 4, 6, 8, 9, 7, 3, 1);
        CHECK.same("the one that stays", c.isAlive(2), true);
        CHECK.same("what was injected into it", c.injected(2, 0), 1);
        ComponentContainer none = with(PROTOTYPE);
        none.set(0, FAIL_AT, 0);
        resolveFails(none, "nothing was completed", 0);
        CHECK.events(none, "nothing was completed");
        ComponentContainer last = holding(298, PROTOTYPE);
        need(last, 0, 14, REQUIRED);
        need(last, 0, 14, REQUIRED);
        resolveFails(last, "the 301st", 0);
        CHECK.same("two were completed and destroyed", last.event(-1), 302);
        CHECK.same("the 300th first", last.event(300), 599);
        CHECK.same("then the 299th", last.event(301), 597);
    }

    private static void prototypesOfThisCallAlone() {
        description(PROTOTYPES_DESTROYED);
        ComponentContainer c = with(PROTOTYPE, PROTOTYPE);
        c.resolve(1, NONE);
        need(c, 0, 1, REQUIRED);
        need(c, 0, NOBODYS_TYPE, REQUIRED);
        resolveFails(c, "the first", 0);
        c.resolve(1, NONE);
        resolveFails(c, "the second", 0);
        CHECK.events(c, "not those of other calls", 0, 2, 3, 4, 6, 7);
        CHECK.same("the one of before", c.isAlive(0), true);
        CHECK.same("the one between", c.isAlive(2), true);
        ComponentContainer changed = with(SINGLETON, SCOPED);
        changed.begin();
        changed.resolve(0, NONE);
        changed.resolve(1, NONE);
        changed.set(0, SCOPE, PROTOTYPE);
        changed.set(1, SCOPE, PROTOTYPE);
        resolveFails(changed, "nothing of this call", NOBODYS_TYPE);
        CHECK.events(changed, "not those of components that are PROTOTYPE now", 0, 2);
    }

    private static void othersStay() {
        description(OTHERS_STAY);
        ComponentContainer c = with(PROTOTYPE, SINGLETON, SCOPED);
        c.begin();
        need(c, 0, 1, REQUIRED);
        need(c, 0, 2, REQUIRED);
        need(c, 0, NOBODYS_TYPE, REQUIRED);
        resolveFails(c, "the last dependency fails", 0);
        CHECK.events(c, "both stay", 0, 2);
        CHECK.same("the SINGLETON", c.resolve(1, NONE), 0);
        CHECK.same("the SCOPED one", c.resolve(2, NONE), 1);
        CHECK.same("it belongs to the scope", c.end(), 1);
        CHECK.same("the SINGLETON is kept until close()", c.close(), 1);
        CHECK.same("numbers go on", c.resolve(1, NONE), 2);
    }

    private static void failureStays() {
        description(FAILURE_STAYS);
        ComponentContainer c = with(PROTOTYPE, PROTOTYPE, SINGLETON);
        need(c, 0, 1, REQUIRED);
        need(c, 1, NOBODYS_TYPE, REQUIRED);
        resolveFails(c, "a failure", 0);
        c.clear(1);
        c.resolve(0, NONE);
        c.start();
        c.begin();
        c.end();
        c.problem(0);
        c.chosen(NOBODYS_TYPE, NONE);
        CHECK.badState("end()", () -> c.end());
        CHECK.badArgument("resolve(16, -1)", () -> c.resolve(16, NONE));
        CHECK.outOfBounds("provide(99, 0)", () -> c.provide(99, 0));
        CHECK.badArgument("provide(0, 0)", () -> c.provide(0, 0));
        c.close();
        CHECK.failure(c, "it stays", NO_CANDIDATE, NOBODYS_TYPE, 0, 1);
        resolveFails(c, "the next one, with a shorter chain", 15);
        CHECK.failure(c, "nothing is left of the one before", NO_CANDIDATE, 15);
        c.set(2, FAIL_AT, 0);
        CHECK.badState("the next one, with a longer chain", () -> c.start());
        CHECK.failure(c, "the next one", BROKEN, 2, 2);
    }

    private static void eventsInOrder() {
        description(EVENTS);
        ComponentContainer c = with(SINGLETON, SCOPED, PROTOTYPE);
        CHECK.events(c, "none at first");
        need(c, 0, 2, REQUIRED);
        c.begin();
        c.resolve(1, NONE);
        c.resolve(0, NONE);
        c.resolve(0, NONE);
        CHECK.events(c, "completions", 0, 2, 4);
        c.end();
        c.resolve(0, NONE);
        CHECK.events(c, "a destruction", 0, 2, 4, 1);
        c.resolve(2, NONE);
        c.close();
        c.close();
        CHECK.events(c, "each once", 0, 2, 4, 1, 6, 5);
    }

    private static void codes() {
        description(CODES);
        ComponentContainer c = twenty(SINGLETON);
        for (int round = 0; round < 15; round++) {
            c.start();
            c.close();
        }
        CHECK.same("as many as there can be", c.event(-1), 600);
        for (int round = 0; round < 15; round += 7) {
            for (int i = 0; i < 20; i++) {
                int instance = round * 20 + i;
                CHECK.same("completion of " + instance, c.event(round * 40 + i), 2 * instance);
                CHECK.same("destruction of " + instance, c.event(round * 40 + 39 - i), 2 * instance + 1);
            }
        }
    }

    // ---- Promises 20 to 22

    private static void instances() {
        promise(20, "Returns the number of instances that have been completed.");
        ComponentContainer c = with(SINGLETON, PROTOTYPE);
        CHECK.same("none at first", c.instances(), 0);
        c.resolve(0, NONE);
        c.resolve(0, NONE);
        CHECK.same("one, obtained twice", c.instances(), 1);
        c.close();
        CHECK.same("destroyed ones count", c.instances(), 1);
        need(c, 0, 1, REQUIRED);
        need(c, 0, NOBODYS_TYPE, REQUIRED);
        resolveFails(c, "the dependency is completed, and destroyed", 0);
        CHECK.same("it counts, the other one does not", c.instances(), 2);
        ComponentContainer full = holding(299, SINGLETON);
        CHECK.same("299", full.instances(), 299);
        full.resolve(0, NONE);
        CHECK.same("300", full.instances(), 300);
        resolveFails(full, "the 301st", 14);
        CHECK.same("300 and no more", full.instances(), 300);
    }

    private static void componentOf() {
        promise(21, "Returns the component of an instance.");
        ComponentContainer c = twenty(SINGLETON);
        c.start();
        c.close();
        c.set(0, TYPES, 2);
        c.set(19, PROFILE, 0);
        CHECK.same("of the first one", c.componentOf(0), 0);
        CHECK.same("of the last one", c.componentOf(19), 19);
        ComponentContainer full = holding(299, SINGLETON);
        full.resolve(0, NONE);
        CHECK.same("of instance 299", full.componentOf(299), 0);
        CHECK.same("of instance 298", full.componentOf(298), 1);
        promise(21, NO_SUCH_INSTANCE);
        refusesNoInstance("componentOf", (x, instance) -> x.componentOf(instance));
    }

    private static void isAlive() {
        promise(22, "Tells whether an instance is alive.");
        ComponentContainer c = holding(298, SINGLETON, SCOPED);
        c.begin();
        c.resolve(0, NONE);
        c.resolve(1, NONE);
        CHECK.same("instance 0", c.isAlive(0), true);
        CHECK.same("instance 298", c.isAlive(298), true);
        CHECK.same("instance 299", c.isAlive(299), true);
        c.end();
        CHECK.same("instance 299, its scope is closed", c.isAlive(299), false);
        CHECK.same("instance 298 still", c.isAlive(298), true);
        c.close();
        CHECK.same("instance 298, closed", c.isAlive(298), false);
        CHECK.same("instance 0, that of a PROTOTYPE", c.isAlive(0), true);
        promise(22, NO_SUCH_INSTANCE);
        refusesNoInstance("isAlive", (x, instance) -> x.isAlive(instance));
    }

    // ---- Promise 23

    private static void injectedThen() {
        promise(23, "Returns what was injected into an instance for a dependency that its component had when the"
                + " instance was constructed.");
        ComponentContainer c = with(PROTOTYPE, SINGLETON, SINGLETON);
        need(c, 0, 1, REQUIRED);
        need(c, 0, 2, REQUIRED);
        c.resolve(0, NONE);
        c.clear(0);
        need(c, 0, 2, REQUIRED);
        c.resolve(0, NONE);
        c.clear(0);
        c.close();
        CHECK.same("the first of the first", c.injected(2, 0), 0);
        CHECK.same("the second of the first", c.injected(2, 1), 1);
        CHECK.same("the first of the second", c.injected(3, 0), 1);
        CHECK.badArgument("no second of the second", () -> c.injected(3, 1));
        ComponentContainer failed = with(SINGLETON, PROTOTYPE, PROTOTYPE);
        need(failed, 0, 1, REQUIRED);
        need(failed, 0, NOBODYS_TYPE, REQUIRED);
        resolveFails(failed, "one that is not completed", 0);
        failed.clear(0);
        need(failed, 0, 2, OPTIONAL);
        CHECK.same("the next construction", failed.resolve(0, NONE), 2);
        CHECK.same("without what was meant for the one before", failed.injected(2, 0), 1);
    }

    private static void injectedOfModes() {
        promise(23, "Returns for REQUIRED and OPTIONAL the number of the instance (NONE if nothing was injected), for"
                + " ALL how many instances, for LATER NONE.");
        ComponentContainer c = with(PROTOTYPE, SINGLETON);
        for (int mode = REQUIRED; mode <= LATER; mode++) {
            need(c, 0, 1, mode);
        }
        need(c, 0, NOBODYS_TYPE, OPTIONAL);
        need(c, 0, NOBODYS_TYPE, ALL);
        int[] due = {0, 0, 1, NONE, NONE, 0};
        c.resolve(0, NONE);
        for (int index = 0; index < 6; index++) {
            CHECK.same("dependency " + index, c.injected(1, index), due[index]);
        }
        ComponentContainer last = holding(298, SINGLETON, SINGLETON);
        need(last, 0, 1, REQUIRED);
        last.resolve(0, NONE);
        CHECK.same("into the 300th the 299th", last.injected(299, 0), 298);
        ComponentContainer all = twenty(SINGLETON);
        all.set(0, TYPES, 2);
        need(all, 0, 0, ALL);
        all.resolve(1, NONE);
        CHECK.same("19 instances", all.injected(19, 0), 19);
    }

    private static void injectedIndex() {
        promise(23, "`index`: number of the dependency");
        ComponentContainer c = with(PROTOTYPE, PROTOTYPE);
        for (int index = 0; index < 6; index++) {
            need(c, 0, 1, REQUIRED);
        }
        c.resolve(0, NONE);
        c.resolve(0, NONE);
        for (int index = 0; index < 6; index++) {
            CHECK.same("number " + index + " of the first", c.injected(6, index), index);
            CHECK.same("number " + index + " of the second", c.injected(13, index), 7 + index);
        }
    }

    private static void injectedRefused() {
        promise(23, NO_SUCH_INSTANCE);
        ComponentContainer c = with(PROTOTYPE, SINGLETON);
        need(c, 0, 1, REQUIRED);
        findsNothingOutside("injected", 0, instance -> c.injected(instance, 0));
        c.resolve(0, NONE);
        findsNothingOutside("injected", 2, instance -> c.injected(instance, 0));
        CHECK.same("the last one", c.injected(1, 0), 0);
        ComponentContainer full = holding(300);
        findsNothingOutside("injected", 300, instance -> full.injected(instance, 0));
        promise(23, NO_DEPENDENCY_THEN);
        for (int held = 0; held <= 6; held++) {
            ComponentContainer x = with(SINGLETON);
            for (int index = 0; index < held; index++) {
                need(x, 0, 0, LATER);
            }
            x.resolve(0, NONE);
            for (int index = held; index < 6; index++) {
                need(x, 0, 0, LATER);
            }
            refusesOutside("with " + held + " then, injected", 0, held - 1, index -> x.injected(0, index));
            CHECK.badArgument("number 6", () -> x.injected(0, 6));
            if (held > 0) {
                CHECK.same("the last of " + held, x.injected(0, held - 1), NONE);
            }
        }
    }

    // ---- Promise 24

    private static void event() {
        promise(24, "Returns the code of an event.");
        ComponentContainer c = with(SINGLETON);
        c.resolve(0, NONE);
        c.close();
        c.resolve(0, NONE);
        CHECK.same("the first", c.event(0), 0);
        CHECK.same("the second", c.event(1), 1);
        CHECK.same("the third", c.event(2), 2);
        promise(24, "`index`: number of the event, or -1 for the number of events");
        CHECK.same("how many", c.event(-1), 3);
        CHECK.same("how many at first", new ComponentContainer().event(-1), 0);
        ComponentContainer full = twenty(SINGLETON);
        for (int round = 0; round < 15; round++) {
            full.start();
            full.close();
        }
        CHECK.same("as many as there can be", full.event(-1), 600);
        CHECK.same("the last of them", full.event(599), 561);
        promise(24, "Returns the code or the number; NONE if there is no such event.");
        for (int index : new int[] {3, 4, -2, LEAST, MOST}) {
            CHECK.same("event(" + index + ") of 3", c.event(index), NONE);
        }
        for (int index : new int[] {0, 1, -2}) {
            CHECK.same("event(" + index + ") of none", new ComponentContainer().event(index), NONE);
        }
        for (int index : new int[] {600, 601, -2, LEAST, MOST}) {
            CHECK.same("event(" + index + ") of 600", full.event(index), NONE);
        }
    }

    // ---- Promises 25 to 27

    private static void failureKind() {
        promise(25, "Returns the kind of the recorded failure, 1 to 6; 0 if none was recorded.");
        CHECK.same("at first", new ComponentContainer().failureKind(), 0);
        ComponentContainer c = failing();
        CHECK.same("none was recorded", c.failureKind(), 0);
        for (int type : new int[] {0, 1, 2, 3, 5}) {
            resolveFails(c, "kind " + (type + 1), type);
            CHECK.same("failureKind()", c.failureKind(), type + 1);
        }
        c.resolve(14, NONE);
        CHECK.same("it stays", c.failureKind(), 6);
        resolveFails(c, "kind 5", 4);
        CHECK.same("failureKind()", c.failureKind(), 5);
    }

    private static void failureDetail() {
        promise(26, "Returns the detail of the recorded failure; NONE if none was recorded.");
        ComponentContainer c = twenty(SINGLETON);
        CHECK.same("none was recorded", c.failureDetail(), NONE);
        resolveFails(c, "type 0", 0);
        CHECK.same("type 0", c.failureDetail(), 0);
        resolveFails(c, "type 15", 15);
        CHECK.same("type 15", c.failureDetail(), 15);
        c.set(19, QUALIFIER, 9);
        c.set(19, FAIL_AT, 0);
        CHECK.badState("component 19", () -> c.resolve(0, 9));
        CHECK.same("component 19", c.failureDetail(), 19);
        c.set(0, FAIL_AT, 0);
        CHECK.badState("component 0", () -> c.start());
        CHECK.same("component 0", c.failureDetail(), 0);
    }

    private static void failureChain() {
        ComponentContainer c = chainOfTwenty(SINGLETON);
        c.depend(19, 15, NONE, REQUIRED);
        promise(27, "Returns the component, or the length (0 if none was recorded); NONE if there is no such index.");
        CHECK.same("the length if none was recorded", c.failureChain(-1), 0);
        CHECK.same("no index 0 if none was recorded", c.failureChain(0), NONE);
        for (int length : new int[] {20, 1, 0, 2}) {
            promise(27, "`index`: index in the chain, from 0; or -1 for the length of the chain");
            int first = 20 - length;
            CHECK.badState("a chain of " + length, () -> c.resolve(length == 0 ? 15 : first / 10, first % 10));
            CHECK.same("its length", c.failureChain(-1), length);
            promise(27, "Returns a component of the chain of the recorded failure.");
            for (int index = 0; index < length; index++) {
                CHECK.same("component " + index + " of " + length, c.failureChain(index), first + index);
            }
            promise(27, "Returns the component, or the length (0 if none was recorded); NONE if there is no such index.");
            for (int index : new int[] {length, length + 1, 20, -2, LEAST, MOST}) {
                CHECK.same("index " + index + " of " + length, c.failureChain(index), NONE);
            }
        }
    }
}
