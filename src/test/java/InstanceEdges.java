/** Edges of the Description's INSTANCES. */
final class InstanceEdges extends Edges {
    private static final String REQUEST = "To request a type with a qualifier means to choose a component and to obtain"
            + " an instance of it; it fails with NO_CANDIDATE if there is no candidate, and with AMBIGUOUS if the choice"
            + " is ambiguous.";
    private static final String SINGLETONS = "SINGLETON: the living instance of it that was constructed as a SINGLETON,"
            + " if there is one; otherwise it is constructed.";
    private static final String BELONGS = "The instance of it that belongs to the innermost open scope, if there is"
            + " one; otherwise it is constructed, and the new instance belongs to this scope.";
    private static final String CYCLES = "To construct an instance of a component fails with CYCLE if an instance of the"
            + " same component is being constructed already.";
    private static final String LIMITS = "Then the construction fails with LIMIT if there are 300 instances already, or"
            + " else with BROKEN because of FAIL_AT.";

    static void run() {
        numbersOfInstances();
        threeHundred();
        aliveUntilDestroyed();
        fiveScopes();
        requestWithoutCandidate();
        requestAmbiguous();
        singletonAtFirst();
        singletonConstructedOtherwise();
        prototype();
        noScope();
        belongsToInnermost();
        belongsOnlyIfScoped();
        cycleOfOne();
        cycleOfTwenty();
        noCycle();
        dependenciesByNumbers();
        requiredInjected();
        optionalInjected();
        allInjected();
        allByAscendingNumbers();
        laterIsNothing();
        limit();
        limitComesAfterDependencies();
        brokenComesAfterDependencies();
        completed();
    }

    private static void numbersOfInstances() {
        description("Instances are numbered from 0 in the order in which they are completed, at most 300 in all.");
        ComponentContainer c = chainOfTwenty(PROTOTYPE);
        CHECK.same("the outermost one is completed last", c.resolve(0, 0), 19);
        for (int instance = 0; instance < 20; instance++) {
            CHECK.same("instance " + instance, c.componentOf(instance), 19 - instance);
        }
        CHECK.same("the next one", c.resolve(1, 9), 20);
        c.depend(19, NOBODYS_TYPE, NONE, REQUIRED);
        CHECK.badState("one that is not completed", () -> c.resolve(1, 9));
        c.clear(19);
        CHECK.same("takes no number", c.resolve(1, 9), 21);
    }

    private static void threeHundred() {
        description("Instances are numbered from 0 in the order in which they are completed, at most 300 in all.");
        ComponentContainer c = holding(299, SINGLETON, PROTOTYPE);
        CHECK.same("one less", c.instances(), 299);
        CHECK.same("the 300th", c.resolve(0, NONE), 299);
        resolveFails(c, "the 301st", 1);
        CHECK.same("still 300", c.instances(), 300);
        CHECK.same("the last number exists", c.componentOf(299), 0);
        CHECK.outOfBounds("the next one does not", () -> c.componentOf(300));
        CHECK.same("the living one is obtained", c.resolve(0, NONE), 299);
        c.close();
        resolveFails(c, "destroyed ones count", 0);
        CHECK.same("300 in all", c.instances(), 300);
    }

    private static void aliveUntilDestroyed() {
        description("An instance is alive until it is destroyed.");
        ComponentContainer c = with(SINGLETON, PROTOTYPE, SCOPED);
        c.begin();
        for (int component = 0; component < 3; component++) {
            c.resolve(component, NONE);
            CHECK.same("alive at once", c.isAlive(component), true);
        }
        c.end();
        CHECK.same("the SCOPED one is destroyed", c.isAlive(2), false);
        CHECK.same("the SINGLETON is alive", c.isAlive(0), true);
        CHECK.same("the PROTOTYPE one is alive", c.isAlive(1), true);
        c.close();
        CHECK.same("the SINGLETON is destroyed", c.isAlive(0), false);
        CHECK.same("the PROTOTYPE one is alive", c.isAlive(1), true);
        c.begin();
        c.resolve(0, NONE);
        c.resolve(2, NONE);
        CHECK.same("the SINGLETON of before", c.isAlive(0), false);
        CHECK.same("the SCOPED one of before", c.isAlive(2), false);
        CHECK.same("the new SINGLETON", c.isAlive(3), true);
        CHECK.same("the new SCOPED one", c.isAlive(4), true);
    }

    private static void fiveScopes() {
        description("There are open scopes, one within another, at most 5; none at first.");
        ComponentContainer c = with(SCOPED);
        CHECK.badState("none at first", () -> c.end());
        resolveFails(c, "none at first", 0);
        for (int open = 1; open <= 5; open++) {
            CHECK.same("begin()", c.begin(), open);
            CHECK.same("each has its own", c.resolve(0, NONE), open - 1);
        }
        CHECK.badState("the sixth", () -> c.begin());
        CHECK.same("still in the fifth", c.resolve(0, NONE), 4);
        for (int open = 5; open >= 1; open--) {
            CHECK.same("back in the one outside", c.resolve(0, NONE), open - 1);
            CHECK.same("end()", c.end(), 1);
        }
        CHECK.badState("none is left", () -> c.end());
        CHECK.same("begin() anew", c.begin(), 1);
    }

    private static void requestWithoutCandidate() {
        description(REQUEST);
        ComponentContainer empty = new ComponentContainer();
        resolveFails(empty, "no component", 0);
        CHECK.failure(empty, "no component", NO_CANDIDATE, 0);
        ComponentContainer c = with(SINGLETON);
        resolveFails(c, "none of the type", 15);
        CHECK.failure(c, "none of the type", NO_CANDIDATE, 15);
        CHECK.badState("none of the qualifier", () -> c.resolve(0, 9));
        CHECK.failure(c, "none of the qualifier", NO_CANDIDATE, 0);
        CHECK.same("one", c.resolve(0, NONE), 0);
        c.set(0, PROFILE, 0);
        resolveFails(c, "inactive, though an instance lives", 0);
        CHECK.failure(c, "inactive", NO_CANDIDATE, 0);
        c.profile(0, true);
        CHECK.same("active", c.resolve(0, NONE), 0);
    }

    private static void requestAmbiguous() {
        description(REQUEST);
        ComponentContainer c = with(SINGLETON);
        c.resolve(0, NONE);
        c.add(1, SINGLETON);
        resolveFails(c, "two, though an instance lives", 0);
        CHECK.failure(c, "two", AMBIGUOUS, 0);
        c.set(1, PRIMARY, 1);
        CHECK.same("one of two is PRIMARY", c.resolve(0, NONE), 1);
        c.set(0, PRIMARY, 1);
        resolveFails(c, "two of two are PRIMARY", 0);
        c.set(1, QUALIFIER, 0);
        CHECK.same("one has the qualifier", c.resolve(0, 0), 1);
        c.set(0, QUALIFIER, 0);
        CHECK.badState("two have the qualifier", () -> c.resolve(0, 0));
        CHECK.failure(c, "two have the qualifier", AMBIGUOUS, 0);
        CHECK.same("nothing more was completed", c.instances(), 2);
    }

    private static void singletonAtFirst() {
        description(SINGLETONS);
        ComponentContainer c = with(SINGLETON, SINGLETON);
        CHECK.same("at first", c.resolve(0, NONE), 0);
        CHECK.same("then the same", c.resolve(0, NONE), 0);
        CHECK.same("another component has its own", c.resolve(1, NONE), 1);
        c.begin();
        CHECK.same("the same in a scope", c.resolve(0, NONE), 0);
        c.end();
        CHECK.same("the same behind it", c.resolve(0, NONE), 0);
        c.close();
        CHECK.same("not one that was destroyed", c.resolve(0, NONE), 2);
        c.begin();
        c.close();
        c.begin();
        CHECK.same("in a scope", c.resolve(0, NONE), 3);
        c.end();
        CHECK.same("it does not belong to the scope", c.resolve(0, NONE), 3);
    }

    private static void singletonConstructedOtherwise() {
        description(SINGLETONS);
        ComponentContainer c = with(PROTOTYPE, SCOPED);
        c.begin();
        c.resolve(0, NONE);
        c.resolve(1, NONE);
        c.set(0, SCOPE, SINGLETON);
        c.set(1, SCOPE, SINGLETON);
        CHECK.same("not that of the PROTOTYPE", c.resolve(0, NONE), 2);
        CHECK.same("not that of the SCOPED one", c.resolve(1, NONE), 3);
        c.set(0, SCOPE, SCOPED);
        c.set(1, SCOPE, PROTOTYPE);
        c.resolve(0, NONE);
        c.resolve(1, NONE);
        c.end();
        c.set(0, SCOPE, SINGLETON);
        c.set(1, SCOPE, SINGLETON);
        CHECK.same("the SINGLETON of before", c.resolve(0, NONE), 2);
        CHECK.same("the other SINGLETON of before", c.resolve(1, NONE), 3);
        c.set(0, SCOPE, PROTOTYPE);
        c.close();
        c.set(0, SCOPE, SINGLETON);
        CHECK.same("it was destroyed meanwhile", c.resolve(0, NONE), 6);
    }

    private static void prototype() {
        description("PROTOTYPE: it is always constructed.");
        ComponentContainer c = with(SINGLETON);
        c.resolve(0, NONE);
        c.set(0, SCOPE, PROTOTYPE);
        for (int instance = 1; instance <= 3; instance++) {
            CHECK.same("though others live", c.resolve(0, NONE), instance);
        }
        c.begin();
        CHECK.same("in a scope", c.resolve(0, NONE), 4);
        CHECK.same("again in the scope", c.resolve(0, NONE), 5);
        CHECK.same("it does not belong to it", c.end(), 0);
        ComponentContainer twice = with(PROTOTYPE, PROTOTYPE);
        need(twice, 0, 1, REQUIRED);
        need(twice, 0, 1, REQUIRED);
        CHECK.same("twice in a construction", twice.resolve(0, NONE), 2);
        CHECK.same("the second of it", twice.injected(2, 1), 1);
    }

    private static void noScope() {
        description("SCOPED: this fails with NO_SCOPE if no scope is open.");
        ComponentContainer c = with(SCOPED, SINGLETON);
        resolveFails(c, "at first", 0);
        CHECK.failure(c, "at first", NO_SCOPE, 0);
        c.begin();
        CHECK.same("in a scope", c.resolve(0, NONE), 0);
        c.begin();
        c.end();
        CHECK.same("one is still open", c.resolve(0, NONE), 0);
        c.end();
        resolveFails(c, "after end()", 0);
        CHECK.failure(c, "after end()", NO_SCOPE, 0);
        c.begin();
        c.begin();
        c.close();
        resolveFails(c, "after close()", 0);
        need(c, 1, 0, ALL);
        resolveFails(c, "needed", 1);
        CHECK.failure(c, "needed", NO_SCOPE, 0, 1);
        c.clear(1);
        need(c, 0, 0, REQUIRED);
        resolveFails(c, "before CYCLE", 0);
        CHECK.failure(c, "before CYCLE", NO_SCOPE, 0);
        CHECK.same("nothing more was completed", c.instances(), 1);
    }

    private static void belongsToInnermost() {
        description(BELONGS);
        ComponentContainer c = with(SCOPED, SCOPED);
        c.begin();
        CHECK.same("the first scope", c.resolve(0, NONE), 0);
        CHECK.same("the same again", c.resolve(0, NONE), 0);
        CHECK.same("another component", c.resolve(1, NONE), 1);
        c.begin();
        CHECK.same("not that of the outer scope", c.resolve(0, NONE), 2);
        CHECK.same("the new one belongs to the inner scope", c.resolve(0, NONE), 2);
        CHECK.same("one is destroyed with it", c.end(), 1);
        CHECK.same("that of the outer scope", c.resolve(0, NONE), 0);
        c.begin();
        CHECK.same("not that of a closed scope", c.resolve(0, NONE), 3);
        c.end();
        CHECK.same("two are destroyed with the outer one", c.end(), 2);
        c.begin();
        CHECK.same("not that of the closed first scope", c.resolve(0, NONE), 4);
    }

    private static void belongsOnlyIfScoped() {
        description(BELONGS);
        ComponentContainer c = with(SINGLETON, PROTOTYPE, SCOPED);
        c.begin();
        c.resolve(0, NONE);
        c.resolve(1, NONE);
        c.set(0, SCOPE, SCOPED);
        c.set(1, SCOPE, SCOPED);
        CHECK.same("not the SINGLETON", c.resolve(0, NONE), 2);
        CHECK.same("not that of the PROTOTYPE", c.resolve(1, NONE), 3);
        c.resolve(2, NONE);
        c.set(2, SCOPE, PROTOTYPE);
        c.resolve(2, NONE);
        c.set(2, SCOPE, SCOPED);
        CHECK.same("the one that belongs to the scope", c.resolve(2, NONE), 4);
        CHECK.same("three belong to it", c.end(), 3);
        need(c, 2, 0, REQUIRED);
        c.begin();
        CHECK.same("one needs another of the scope", c.resolve(2, NONE), 7);
        CHECK.same("that one belongs to it, too", c.resolve(0, NONE), 6);
        CHECK.same("both belong to it", c.end(), 2);
    }

    private static void cycleOfOne() {
        description(CYCLES);
        for (int scope = SINGLETON; scope <= SCOPED; scope++) {
            for (int mode = REQUIRED; mode <= ALL; mode++) {
                ComponentContainer c = with(scope);
                c.begin();
                need(c, 0, 0, mode);
                resolveFails(c, "itself", 0);
                CHECK.failure(c, "itself, scope " + scope + ", mode " + mode, CYCLE, 0, 0);
                CHECK.same("nothing is completed", c.instances() + c.event(-1), 0);
                c.clear(0);
                CHECK.same("it is no more under construction", c.resolve(0, NONE), 0);
            }
        }
    }

    private static void cycleOfTwenty() {
        description(CYCLES);
        ComponentContainer c = chainOfTwenty(PROTOTYPE);
        c.depend(19, 0, 0, REQUIRED);
        CHECK.badState("through 20", () -> c.resolve(0, 0));
        int[] chain = new int[20];
        for (int i = 0; i < 20; i++) {
            chain[i] = i;
        }
        CHECK.failure(c, "through 20", CYCLE, 0, chain);
        c.clear(19);
        c.depend(19, 1, 9, REQUIRED);
        CHECK.badState("the innermost of 20 itself", () -> c.resolve(0, 0));
        CHECK.failure(c, "the innermost of 20 itself", CYCLE, 19, chain);
        c.clear(19);
        CHECK.same("20 at once", c.resolve(0, 0), 19);
    }

    private static void noCycle() {
        description(CYCLES);
        ComponentContainer c = with(PROTOTYPE, PROTOTYPE, PROTOTYPE, PROTOTYPE);
        need(c, 0, 1, REQUIRED);
        need(c, 0, 2, REQUIRED);
        need(c, 1, 3, REQUIRED);
        need(c, 2, 3, REQUIRED);
        need(c, 0, 3, REQUIRED);
        CHECK.same("completed already, not being constructed", c.resolve(0, NONE), 5);
        ComponentContainer lives = with(SINGLETON, SINGLETON);
        lives.resolve(0, NONE);
        need(lives, 1, 0, REQUIRED);
        need(lives, 0, 1, REQUIRED);
        CHECK.same("a living SINGLETON is not constructed", lives.resolve(1, NONE), 1);
        lives.close();
        resolveFails(lives, "it lives no more", 1);
        CHECK.failure(lives, "it lives no more", CYCLE, 1, 1, 0);
        ComponentContainer scoped = with(SCOPED, SCOPED);
        scoped.begin();
        scoped.resolve(0, NONE);
        need(scoped, 1, 0, REQUIRED);
        need(scoped, 0, 1, REQUIRED);
        CHECK.same("one of the scope is not constructed", scoped.resolve(1, NONE), 1);
        scoped.begin();
        resolveFails(scoped, "the inner scope has none", 1);
        CHECK.failure(scoped, "the inner scope has none", CYCLE, 1, 1, 0);
    }

    private static void dependenciesByNumbers() {
        description("Otherwise its dependencies are gone through by their numbers:");
        ComponentContainer c = with(SINGLETON, PROTOTYPE, PROTOTYPE, PROTOTYPE, PROTOTYPE, PROTOTYPE, PROTOTYPE);
        CHECK.same("none", c.resolve(1, NONE), 0);
        CHECK.badArgument("none was injected", () -> c.injected(0, 0));
        int[] order = {6, 2, 4, 1, 5, 3};
        for (int type : order) {
            need(c, 0, type, REQUIRED);
        }
        CHECK.same("six", c.resolve(0, NONE), 7);
        for (int index = 0; index < 6; index++) {
            CHECK.same("completed by dependency " + index, c.componentOf(index + 1), order[index]);
            CHECK.same("injected by dependency " + index, c.injected(7, index), index + 1);
        }
        c.close();
        c.clear(0);
        need(c, 0, 1, REQUIRED);
        need(c, 0, NOBODYS_TYPE, REQUIRED);
        need(c, 0, 2, REQUIRED);
        resolveFails(c, "the second one fails", 0);
        CHECK.same("the first one was completed, the third one was not", c.instances(), 9);
        CHECK.same("the first one", c.componentOf(8), 1);
    }

    private static void requiredInjected() {
        description("REQUIRED: the type is requested with the qualifier; the instance is injected.");
        ComponentContainer c = with(PROTOTYPE, SINGLETON, SINGLETON);
        c.set(2, TYPES, 2);
        c.set(2, QUALIFIER, 0);
        c.depend(0, 1, 0, REQUIRED);
        CHECK.same("by the qualifier", c.resolve(0, NONE), 1);
        CHECK.same("instance 0 is injected", c.injected(1, 0), 0);
        CHECK.same("of the component with the qualifier", c.componentOf(0), 2);
        CHECK.same("another one", c.resolve(0, NONE), 2);
        CHECK.same("a living SINGLETON is injected", c.injected(2, 0), 0);
        c.clear(0);
        c.depend(0, 1, 9, REQUIRED);
        resolveFails(c, "none of the qualifier", 0);
        CHECK.failure(c, "none of the qualifier", NO_CANDIDATE, 1, 0);
        c.clear(0);
        c.depend(0, 1, NONE, REQUIRED);
        resolveFails(c, "two of any qualifier", 0);
        CHECK.failure(c, "two of any qualifier", AMBIGUOUS, 1, 0);
    }

    private static void optionalInjected() {
        description("OPTIONAL: likewise, but if there is no candidate, nothing is injected.");
        ComponentContainer c = with(PROTOTYPE, SINGLETON, SINGLETON);
        c.depend(0, 1, 0, OPTIONAL);
        CHECK.same("no candidate", c.resolve(0, NONE), 0);
        CHECK.same("nothing is injected", c.injected(0, 0), NONE);
        c.set(1, QUALIFIER, 0);
        CHECK.same("a candidate", c.resolve(0, NONE), 2);
        CHECK.same("it is injected", c.injected(2, 0), 1);
        c.set(1, PROFILE, 3);
        CHECK.same("inactive", c.resolve(0, NONE), 3);
        CHECK.same("nothing is injected, though an instance lives", c.injected(3, 0), NONE);
        c.profile(3, true);
        c.set(2, TYPES, 2);
        c.set(2, QUALIFIER, 0);
        resolveFails(c, "two candidates", 0);
        CHECK.failure(c, "two candidates", AMBIGUOUS, 1, 0);
        c.set(2, PRIMARY, 1);
        c.set(2, FAIL_AT, 0);
        resolveFails(c, "the candidate fails", 0);
        CHECK.failure(c, "the candidate fails", BROKEN, 2, 0, 2);
        CHECK.same("nothing more is completed", c.instances(), 4);
    }

    private static void allInjected() {
        description("ALL: an instance of each candidate is obtained, by ascending numbers of the components; how many"
                + " they are is injected.");
        for (int count = 0; count <= 19; count++) {
            ComponentContainer c = with(PROTOTYPE);
            need(c, 0, 1, ALL);
            for (int i = 0; i < count; i++) {
                c.add(2, i % 2);
            }
            CHECK.same("with " + count + " candidates", c.resolve(0, NONE), count);
            CHECK.same("how many are injected", c.injected(count, 0), count);
            int prototypes = count / 2;
            CHECK.same("again", c.resolve(0, NONE), count + 1 + prototypes);
            CHECK.same("living ones count", c.injected(count + 1 + prototypes, 0), count);
        }
        ComponentContainer c = with(PROTOTYPE, SINGLETON, SINGLETON);
        c.set(1, TYPES, 6);
        c.set(1, QUALIFIER, 4);
        c.depend(0, 2, 4, ALL);
        c.depend(0, 2, NONE, ALL);
        c.set(2, PRIMARY, 1);
        CHECK.same("by qualifiers, PRIMARY or not", c.resolve(0, NONE), 2);
        CHECK.same("with the qualifier", c.injected(2, 0), 1);
        CHECK.same("with any qualifier", c.injected(2, 1), 2);
    }

    private static void allByAscendingNumbers() {
        description("ALL: an instance of each candidate is obtained, by ascending numbers of the components; how many"
                + " they are is injected.");
        ComponentContainer c = twenty(SINGLETON);
        c.set(10, TYPES, 2);
        need(c, 10, 0, ALL);
        CHECK.same("19 candidates", c.resolve(1, NONE), 19);
        for (int instance = 0; instance < 20; instance++) {
            int component = instance < 10 ? instance : instance < 19 ? instance + 1 : 10;
            CHECK.same("instance " + instance, c.componentOf(instance), component);
        }
        c.close();
        c.set(5, FAIL_AT, 1);
        resolveFails(c, "the sixth candidate fails", 1);
        CHECK.failure(c, "the sixth candidate fails", BROKEN, 5, 10, 5);
        CHECK.same("five before it were completed", c.instances(), 25);
        CHECK.same("the last of them", c.componentOf(24), 4);
    }

    private static void laterIsNothing() {
        description("LATER: nothing happens.");
        ComponentContainer c = with(PROTOTYPE, SINGLETON, SCOPED, SINGLETON, SINGLETON);
        c.set(4, TYPES, 8);
        c.set(1, FAIL_AT, 0);
        need(c, 0, 0, LATER);
        need(c, 0, 1, LATER);
        need(c, 0, 2, LATER);
        need(c, 0, 3, LATER);
        need(c, 0, NOBODYS_TYPE, LATER);
        CHECK.same("itself, BROKEN, NO_SCOPE, AMBIGUOUS, NO_CANDIDATE", c.resolve(0, NONE), 0);
        for (int index = 0; index < 5; index++) {
            CHECK.same("nothing is injected", c.injected(0, index), NONE);
        }
        CHECK.events(c, "nothing else is completed", 0);
        CHECK.failure(c, "nothing is recorded", 0, NONE);
    }

    private static void limit() {
        description(LIMITS);
        for (int scope = SINGLETON; scope <= SCOPED; scope++) {
            ComponentContainer c = holding(298, scope, PROTOTYPE);
            need(c, 0, 1, REQUIRED);
            c.begin();
            CHECK.same("the 299th and the 300th, scope " + scope, c.resolve(0, NONE), 299);
            resolveFails(c, "the 301st", 1);
            CHECK.failure(c, "the 301st", LIMIT, 1, 1);
            ComponentContainer one = holding(299, scope, PROTOTYPE);
            need(one, 0, 1, REQUIRED);
            one.begin();
            resolveFails(one, "the 300th is the dependency, scope " + scope, 0);
            CHECK.failure(one, "the 300th is the dependency", LIMIT, 0, 0);
            CHECK.same("it was completed", one.instances(), 300);
            CHECK.same("and destroyed", one.isAlive(299), false);
        }
        ComponentContainer both = holding(299, PROTOTYPE);
        both.set(0, FAIL_AT, 0);
        resolveFails(both, "BROKEN with 299", 0);
        CHECK.failure(both, "BROKEN with 299", BROKEN, 0, 0);
        both.set(0, FAIL_AT, 1);
        CHECK.same("the 300th", both.resolve(0, NONE), 299);
        resolveFails(both, "LIMIT comes before BROKEN", 0);
        CHECK.failure(both, "LIMIT comes before BROKEN", LIMIT, 0, 0);
        both.set(0, FAIL_AT, 0);
        resolveFails(both, "LIMIT comes before FAIL_AT 0", 0);
        CHECK.failure(both, "LIMIT comes before FAIL_AT 0", LIMIT, 0, 0);
    }

    private static void limitComesAfterDependencies() {
        description(LIMITS);
        ComponentContainer c = holding(299, SINGLETON, PROTOTYPE, SCOPED);
        c.resolve(0, NONE);
        need(c, 1, 0, REQUIRED);
        resolveFails(c, "a living dependency", 1);
        CHECK.failure(c, "a living dependency", LIMIT, 1, 1);
        need(c, 1, NOBODYS_TYPE, REQUIRED);
        resolveFails(c, "NO_CANDIDATE comes first", 1);
        CHECK.failure(c, "NO_CANDIDATE comes first", NO_CANDIDATE, NOBODYS_TYPE, 1);
        c.clear(1);
        need(c, 1, 1, REQUIRED);
        resolveFails(c, "CYCLE comes first", 1);
        CHECK.failure(c, "CYCLE comes first", CYCLE, 1, 1);
        c.clear(1);
        need(c, 1, 2, REQUIRED);
        resolveFails(c, "NO_SCOPE comes first", 1);
        CHECK.failure(c, "NO_SCOPE comes first", NO_SCOPE, 2, 1);
        c.begin();
        resolveFails(c, "LIMIT of the dependency", 1);
        CHECK.failure(c, "LIMIT of the dependency", LIMIT, 2, 1, 2);
    }

    private static void brokenComesAfterDependencies() {
        description(LIMITS);
        ComponentContainer c = with(SINGLETON, SINGLETON);
        need(c, 0, 1, REQUIRED);
        c.set(0, FAIL_AT, 0);
        resolveFails(c, "BROKEN", 0);
        CHECK.failure(c, "BROKEN", BROKEN, 0, 0);
        CHECK.same("the dependency was completed", c.instances(), 1);
        need(c, 0, NOBODYS_TYPE, REQUIRED);
        resolveFails(c, "NO_CANDIDATE comes first", 0);
        CHECK.failure(c, "NO_CANDIDATE comes first", NO_CANDIDATE, NOBODYS_TYPE, 0);
        c.clear(0);
        need(c, 0, 0, REQUIRED);
        resolveFails(c, "CYCLE comes first", 0);
        CHECK.failure(c, "CYCLE comes first", CYCLE, 0, 0);
    }

    private static void completed() {
        description("Otherwise the instance is completed.");
        ComponentContainer c = with(SINGLETON);
        c.set(0, FAIL_AT, 1);
        CHECK.same("resolve", c.resolve(0, NONE), 0);
        CHECK.same("it is an instance", c.instances(), 1);
        CHECK.same("it is alive", c.isAlive(0), true);
        CHECK.events(c, "it is an event", 0);
    }
}
