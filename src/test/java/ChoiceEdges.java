/** Edges of the Description's CHOICE and of promises 10 to 13. */
final class ChoiceEdges extends Edges {
    private static final String CHOICE = "If there is one candidate, it is chosen; if there are several and exactly one"
            + " of them is PRIMARY, this one is chosen; if there are several otherwise, the choice is ambiguous.";
    private static final String PROBLEM = "Finds the first problem that the construction of a component would meet if"
            + " no instances existed, SCOPED components were PROTOTYPE ones, and LIMIT and BROKEN did not exist.";
    private static final String NEEDS = "Returns the mask of the components that a component needs, directly or through"
            + " others: a component needs the components that are chosen for its REQUIRED and OPTIONAL dependencies (if"
            + " one is chosen), and all candidates for its ALL dependencies.";
    private static final String NEEDS_ITSELF =
            "The component itself belongs to the mask only if it needs itself, directly or through others.";
    private static final String TYPE_OR_QUALIFIER =
            "Throws `IllegalArgumentException` if type is not 0 to 15 or qualifier is not -1 to 9";

    static void run() {
        candidatesOfChoice();
        oneOrSeveral();
        primaryAmongTwenty();
        primaryThatIsNoCandidate();
        candidates();
        chosen();
        typeOrQualifierRefused();
        problemWithoutInstances();
        problemOfScoped();
        problemWithoutLimitAndBroken();
        firstProblem();
        problemKinds();
        problemOfCycles();
        problemRefused();
        needsOfModes();
        needsThroughOthers();
        needsItself();
        needsRefused();
    }

    // ---- Description

    private static void candidatesOfChoice() {
        description("The candidates for a type and a qualifier are the active components that provide the type and, if"
                + " the qualifier is not -1, have this qualifier.");
        ComponentContainer c = twenty(SINGLETON);
        c.set(0, QUALIFIER, 0);
        c.set(18, QUALIFIER, 9);
        c.set(19, QUALIFIER, 0);
        CHECK.same("any qualifier, or none", c.candidates(0, -1), 0xFFFFF);
        CHECK.same("qualifier 0", c.candidates(0, 0), 0x80001);
        CHECK.same("qualifier 9", c.candidates(0, 9), 0x40000);
        CHECK.same("qualifier 1", c.candidates(0, 1), 0);
        CHECK.same("another type", c.candidates(1, -1), 0);
        CHECK.same("another type with a qualifier", c.candidates(1, 0), 0);
        c.set(19, PROFILE, 0);
        CHECK.same("without the inactive one", c.candidates(0, -1), 0x7FFFF);
        CHECK.same("without the inactive one, qualifier 0", c.candidates(0, 0), 1);
        c.set(0, TYPES, 2);
        CHECK.same("none is left", c.candidates(0, 0), 0);
        CHECK.same("by the other type", c.candidates(1, 0), 1);
    }

    private static void oneOrSeveral() {
        description(CHOICE);
        for (int primaries = 0; primaries < 8; primaries++) {
            ComponentContainer c = new ComponentContainer();
            CHECK.same("without candidate", c.chosen(0, NONE), NONE);
            for (int component = 0; component < 3; component++) {
                c.add(1, SINGLETON);
                c.set(component, PRIMARY, primaries >> component & 1);
                int among = primaries & (2 << component) - 1;
                int due = component == 0 ? 0 : Integer.bitCount(among) == 1 ? Integer.numberOfTrailingZeros(among) : NONE;
                CHECK.same("among " + (component + 1) + ", primaries " + among, c.chosen(0, NONE), due);
            }
        }
    }

    private static void primaryAmongTwenty() {
        description(CHOICE);
        ComponentContainer c = twenty(SINGLETON);
        CHECK.same("none of 20 is PRIMARY", c.chosen(0, NONE), NONE);
        for (int component = 0; component < 20; component++) {
            c.set(component, PRIMARY, 1);
            CHECK.same("one of 20 is PRIMARY", c.chosen(0, NONE), component);
            c.set(19 - component, PRIMARY, 1);
            CHECK.same("two of 20 are PRIMARY", c.chosen(0, NONE), NONE);
            c.set(component, PRIMARY, 0);
            CHECK.same("the other one is PRIMARY", c.chosen(0, NONE), 19 - component);
            c.set(19 - component, PRIMARY, 0);
        }
        for (int component = 0; component < 20; component++) {
            c.set(component, PRIMARY, 1);
        }
        CHECK.same("20 of 20 are PRIMARY", c.chosen(0, NONE), NONE);
    }

    private static void primaryThatIsNoCandidate() {
        description(CHOICE);
        ComponentContainer c = twenty(SINGLETON);
        c.set(5, PRIMARY, 1);
        c.set(6, PRIMARY, 1);
        CHECK.same("both are candidates", c.chosen(0, NONE), NONE);
        c.set(6, PROFILE, 0);
        CHECK.same("one is inactive", c.chosen(0, NONE), 5);
        c.profile(0, true);
        CHECK.same("both again", c.chosen(0, NONE), NONE);
        c.set(5, TYPES, 2);
        CHECK.same("one has another type", c.chosen(0, NONE), 6);
        c.set(6, TYPES, 2);
        CHECK.same("none of the candidates", c.chosen(0, NONE), NONE);
        c.set(5, QUALIFIER, 3);
        CHECK.same("one by its qualifier", c.chosen(1, 3), 5);
        c.set(7, QUALIFIER, 3);
        CHECK.same("a single one that is not PRIMARY", c.chosen(0, 3), 7);
    }

    // ---- Promises 10 and 11

    private static void candidates() {
        promise(10, "Returns the mask of the candidates for a type and a qualifier.");
        ComponentContainer c = new ComponentContainer();
        CHECK.same("no component", c.candidates(0, NONE), 0);
        for (int component = 0; component < 20; component++) {
            c.add(32769, component % 3);
            CHECK.same("type 0", c.candidates(0, NONE), (2 << component) - 1);
            CHECK.same("type 15", c.candidates(15, NONE), (2 << component) - 1);
            CHECK.same("type 14", c.candidates(14, NONE), 0);
            CHECK.same("no qualifier 0", c.candidates(0, 0), 0);
        }
        c.set(19, QUALIFIER, 9);
        CHECK.same("qualifier 9", c.candidates(15, 9), 0x80000);
        CHECK.same("PRIMARY does not count", c.set(0, PRIMARY, 1) + c.candidates(0, NONE), 0xFFFFF);
        CHECK.same("nothing is constructed", c.instances() + c.event(-1), 0);
    }

    private static void chosen() {
        promise(11, "Returns the component that is chosen for a type and a qualifier; NONE if there is no candidate or"
                + " the choice is ambiguous.");
        ComponentContainer c = new ComponentContainer();
        CHECK.same("no component", c.chosen(0, NONE), NONE);
        c.add(1, SINGLETON);
        CHECK.same("one", c.chosen(0, NONE), 0);
        CHECK.same("none of the type", c.chosen(1, NONE), NONE);
        CHECK.same("none of the qualifier", c.chosen(0, 0), NONE);
        c.add(32769, SINGLETON);
        CHECK.same("two", c.chosen(0, NONE), NONE);
        CHECK.same("one of type 15", c.chosen(15, NONE), 1);
        c.set(1, QUALIFIER, 9);
        CHECK.same("one of qualifier 9", c.chosen(0, 9), 1);
        for (int component = 2; component < 20; component++) {
            c.add(2, SINGLETON);
        }
        c.set(19, QUALIFIER, 0);
        CHECK.same("the last one", c.chosen(1, 0), 19);
        CHECK.same("18 of the type", c.chosen(1, NONE), NONE);
        CHECK.same("nothing is constructed", c.instances() + c.event(-1), 0);
        CHECK.failure(c, "nothing is recorded", 0, NONE);
    }

    private static void typeOrQualifierRefused() {
        ComponentContainer empty = new ComponentContainer();
        ComponentContainer c = twenty(SINGLETON);
        promise(10, TYPE_OR_QUALIFIER);
        refusesOutside("no component, type", 0, 15, type -> empty.candidates(type, NONE));
        refusesOutside("no component, qualifier", -1, 9, qualifier -> empty.candidates(0, qualifier));
        refusesOutside("type", 0, 15, type -> c.candidates(type, NONE));
        refusesOutside("qualifier", -1, 9, qualifier -> c.candidates(0, qualifier));
        CHECK.same("the last ones", c.candidates(15, 9), 0);
        promise(11, TYPE_OR_QUALIFIER);
        refusesOutside("no component, type", 0, 15, type -> empty.chosen(type, NONE));
        refusesOutside("no component, qualifier", -1, 9, qualifier -> empty.chosen(0, qualifier));
        refusesOutside("type", 0, 15, type -> c.chosen(type, NONE));
        refusesOutside("qualifier", -1, 9, qualifier -> c.chosen(0, qualifier));
        CHECK.same("the last ones", c.chosen(15, 9), NONE);
    }

    // ---- Promise 12

    private static void problemWithoutInstances() {
        promise(12, PROBLEM);
        ComponentContainer c = with(SINGLETON, SINGLETON, SCOPED);
        c.begin();
        c.resolve(0, NONE);
        c.resolve(1, NONE);
        c.resolve(2, NONE);
        need(c, 0, 1, REQUIRED);
        need(c, 0, 2, REQUIRED);
        CHECK.same("no problem", c.problem(0), 0);
        need(c, 1, NOBODYS_TYPE, REQUIRED);
        CHECK.same("as if the needed instance did not exist", c.problem(0), NO_CANDIDATE);
        CHECK.same("as if its own instance did not exist", c.problem(1), NO_CANDIDATE);
        c.clear(1);
        need(c, 2, 0, REQUIRED);
        CHECK.same("as if the scope had no instance", c.problem(0), CYCLE);
        CHECK.same("nothing is constructed", c.instances(), 3);
        CHECK.failure(c, "nothing is recorded", 0, NONE);
    }

    private static void problemOfScoped() {
        promise(12, PROBLEM);
        ComponentContainer c = with(SCOPED, SCOPED, SINGLETON);
        need(c, 2, 1, REQUIRED);
        need(c, 2, 0, ALL);
        for (int open = 0; open <= 5; open++) {
            CHECK.same("of a SCOPED one in " + open, c.problem(0), 0);
            CHECK.same("through SCOPED ones in " + open, c.problem(2), 0);
            if (open < 5) {
                c.begin();
            }
        }
        need(c, 1, 1, REQUIRED);
        CHECK.same("a cycle of a SCOPED one", c.problem(1), CYCLE);
        CHECK.same("found through another", c.problem(2), CYCLE);
    }

    private static void problemWithoutLimitAndBroken() {
        promise(12, PROBLEM);
        ComponentContainer c = holding(300, SINGLETON, PROTOTYPE);
        need(c, 0, 1, REQUIRED);
        resolveFails(c, "LIMIT", 0);
        CHECK.same("LIMIT does not exist", c.problem(0), 0);
        ComponentContainer broken = with(SINGLETON, PROTOTYPE);
        need(broken, 0, 1, REQUIRED);
        broken.set(0, FAIL_AT, 0);
        broken.set(1, FAIL_AT, 0);
        CHECK.same("BROKEN does not exist", broken.problem(0), 0);
        need(broken, 0, NOBODYS_TYPE, REQUIRED);
        CHECK.same("but what follows does", broken.problem(0), NO_CANDIDATE);
        ComponentContainer many = with(PROTOTYPE, PROTOTYPE, PROTOTYPE, PROTOTYPE, PROTOTYPE);
        for (int i = 0; i < 24; i++) {
            need(many, i / 6, i / 6 + 1, REQUIRED);
        }
        CHECK.same("1555 instances would be constructed", many.problem(0), 0);
        need(many, 4, NOBODYS_TYPE, REQUIRED);
        CHECK.same("the end is missing", many.problem(0), NO_CANDIDATE);
    }

    private static void firstProblem() {
        promise(12, PROBLEM);
        ComponentContainer c = with(SINGLETON, SINGLETON, SINGLETON);
        c.set(2, TYPES, 6);
        need(c, 0, 1, REQUIRED);
        need(c, 0, NOBODYS_TYPE, REQUIRED);
        need(c, 0, 0, REQUIRED);
        CHECK.same("the first of three", c.problem(0), AMBIGUOUS);
        c.set(2, TYPES, 4);
        CHECK.same("the second of three", c.problem(0), NO_CANDIDATE);
        c.set(2, TYPES, 4 + (1 << NOBODYS_TYPE));
        CHECK.same("the third of three", c.problem(0), CYCLE);
        need(c, 2, 0, OPTIONAL);
        need(c, 1, NOBODYS_TYPE + 1, REQUIRED);
        CHECK.same("that of the first dependency", c.problem(0), NO_CANDIDATE);
        ComponentContainer all = with(SINGLETON, SINGLETON, SINGLETON);
        all.set(1, TYPES, 1);
        all.set(0, TYPES, 1);
        need(all, 2, 0, ALL);
        need(all, 0, 2, REQUIRED);
        need(all, 1, NOBODYS_TYPE, REQUIRED);
        CHECK.same("that of the first candidate", all.problem(2), CYCLE);
        all.clear(0);
        CHECK.same("that of the second candidate", all.problem(2), NO_CANDIDATE);
    }

    private static void problemKinds() {
        promise(12, "Returns NO_CANDIDATE, AMBIGUOUS or CYCLE; 0 if there is no problem.");
        for (int mode = 0; mode <= 3; mode++) {
            ComponentContainer c = with(SINGLETON, SINGLETON);
            CHECK.same("without dependency", c.problem(0), 0);
            need(c, 0, 1, mode);
            CHECK.same("one candidate, mode " + mode, c.problem(0), 0);
            c.set(1, PROFILE, 0);
            CHECK.same("no candidate, mode " + mode, c.problem(0), mode == REQUIRED ? NO_CANDIDATE : 0);
            CHECK.same("of an inactive one, mode " + mode, c.problem(1), 0);
            c.set(1, PROFILE, -1);
            c.add(2, SINGLETON);
            boolean chooses = mode == REQUIRED || mode == OPTIONAL;
            CHECK.same("two candidates, mode " + mode, c.problem(0), chooses ? AMBIGUOUS : 0);
            c.set(2, PRIMARY, 1);
            CHECK.same("one of two is PRIMARY, mode " + mode, c.problem(0), 0);
            need(c, 2, 0, REQUIRED);
            CHECK.same("a way back, mode " + mode, c.problem(0), mode == LATER ? 0 : CYCLE);
            c.depend(1, 0, 5, mode);
            CHECK.same("no such qualifier, mode " + mode, c.problem(1), mode == REQUIRED ? NO_CANDIDATE : 0);
        }
    }

    private static void problemOfCycles() {
        promise(12, "Returns NO_CANDIDATE, AMBIGUOUS or CYCLE; 0 if there is no problem.");
        for (int scope = SINGLETON; scope <= SCOPED; scope++) {
            ComponentContainer itself = with(scope);
            need(itself, 0, 0, REQUIRED);
            CHECK.same("itself, scope " + scope, itself.problem(0), CYCLE);
            ComponentContainer c = chainOfTwenty(scope);
            CHECK.same("20 in a row, scope " + scope, c.problem(0), 0);
            CHECK.same("the last of 20, scope " + scope, c.problem(19), 0);
            c.depend(19, 1, 9, REQUIRED);
            CHECK.same("the last one needs itself, scope " + scope, c.problem(0), CYCLE);
            c.clear(19);
            c.depend(19, 0, 0, ALL);
            CHECK.same("a cycle of 20, scope " + scope, c.problem(0), CYCLE);
            CHECK.same("a cycle of 20 from its end, scope " + scope, c.problem(19), CYCLE);
            ComponentContainer diamond = with(scope, scope, scope, scope);
            need(diamond, 0, 1, REQUIRED);
            need(diamond, 0, 2, REQUIRED);
            need(diamond, 1, 3, REQUIRED);
            need(diamond, 2, 3, REQUIRED);
            CHECK.same("two ways to one are no cycle, scope " + scope, diamond.problem(0), 0);
        }
    }

    private static void problemRefused() {
        promise(12, "Throws `IndexOutOfBoundsException` if there is no such component");
        refusesNoComponent("problem", (c, component) -> c.problem(component));
    }

    // ---- Promise 13

    private static void needsOfModes() {
        promise(13, NEEDS);
        for (int mode = 0; mode <= 3; mode++) {
            boolean chooses = mode == REQUIRED || mode == OPTIONAL;
            ComponentContainer c = with(SINGLETON, SINGLETON, SINGLETON);
            CHECK.same("without dependency", c.needs(0), 0);
            need(c, 0, NOBODYS_TYPE, mode);
            CHECK.same("no candidate, mode " + mode, c.needs(0), 0);
            need(c, 0, 1, mode);
            CHECK.same("one candidate, mode " + mode, c.needs(0), mode == LATER ? 0 : 2);
            c.set(2, TYPES, 2);
            CHECK.same("two candidates, mode " + mode, c.needs(0), mode == ALL ? 6 : 0);
            c.set(2, PRIMARY, 1);
            CHECK.same("one of two is PRIMARY, mode " + mode, c.needs(0), mode == ALL ? 6 : chooses ? 4 : 0);
            c.set(2, PROFILE, 0);
            CHECK.same("one of two is inactive, mode " + mode, c.needs(0), mode == LATER ? 0 : 2);
            c.resolve(1, NONE);
            CHECK.same("whether or not it exists, mode " + mode, c.needs(0), mode == LATER ? 0 : 2);
        }
        ComponentContainer all = twenty(SINGLETON);
        all.set(0, TYPES, 2);
        need(all, 0, 0, ALL);
        CHECK.same("all others", all.needs(0), 0xFFFFE);
        need(all, 0, 1, ALL);
        CHECK.same("all of 20", all.needs(0), 0xFFFFF);
    }

    private static void needsThroughOthers() {
        promise(13, NEEDS);
        ComponentContainer c = chainOfTwenty(SINGLETON);
        for (int component = 0; component < 20; component++) {
            CHECK.same("all behind " + component, c.needs(component), 0xFFFFF & -(2 << component));
        }
        ComponentContainer backwards = new ComponentContainer();
        for (int component = 0; component < 16; component++) {
            backwards.add(1 << component, PROTOTYPE);
            for (int index = 0; component > 0 && index < 6; index++) {
                need(backwards, component, component - 1, index % 3);
            }
        }
        for (int component = 0; component < 16; component++) {
            CHECK.same("all before " + component, backwards.needs(component), (1 << component) - 1);
        }
        ComponentContainer sixth = with(SINGLETON, SINGLETON, SINGLETON);
        for (int index = 0; index < 5; index++) {
            need(sixth, 0, NOBODYS_TYPE, REQUIRED);
        }
        need(sixth, 0, 1, REQUIRED);
        need(sixth, 1, 2, OPTIONAL);
        CHECK.same("by the sixth dependency", sixth.needs(0), 6);
    }

    private static void needsItself() {
        promise(13, NEEDS_ITSELF);
        for (int mode = 0; mode <= 3; mode++) {
            ComponentContainer c = with(SINGLETON, SINGLETON);
            need(c, 0, 1, mode);
            CHECK.same("it needs another, mode " + mode, c.needs(0), mode == LATER ? 0 : 2);
            need(c, 1, 0, mode);
            CHECK.same("itself through another, mode " + mode, c.needs(0), mode == LATER ? 0 : 3);
            c.clear(1);
            need(c, 0, 0, mode);
            CHECK.same("itself directly, mode " + mode, c.needs(0), mode == LATER ? 0 : 3);
            CHECK.same("the other does not, mode " + mode, c.needs(1), 0);
        }
        ComponentContainer c = chainOfTwenty(SINGLETON);
        CHECK.same("the first of 20", c.needs(0), 0xFFFFE);
        c.depend(19, 0, 0, OPTIONAL);
        CHECK.same("itself through 19 others", c.needs(0), 0xFFFFF);
        CHECK.same("the last of 20", c.needs(19), 0xFFFFF);
        c.clear(0);
        CHECK.same("the last of 20, the first without", c.needs(19), 1);
        CHECK.same("the first without", c.needs(0), 0);
        CHECK.same("not itself, though others are in a cycle", cycleBehind().needs(0), 6);
    }

    private static ComponentContainer cycleBehind() {
        ComponentContainer c = with(SINGLETON, SINGLETON, SINGLETON);
        need(c, 0, 1, REQUIRED);
        need(c, 1, 2, REQUIRED);
        need(c, 2, 1, REQUIRED);
        return c;
    }

    private static void needsRefused() {
        promise(13, "Throws `IndexOutOfBoundsException` if there is no such component");
        refusesNoComponent("needs", (c, component) -> c.needs(component));
    }
}
