/** Promises 10 to 13: candidates, chosen, problem and needs. */
public final class ChoiceTest {
    private static final Check CHECK = new Check("ChoiceTest");

    public static void main(String[] args) {
        candidates();
        chosen();
        wrongArguments();
        problemKinds();
        problemsOfAll();
        problemsOrder();
        problemOfWideGraph();
        needs();
        needsLongWay();
        CHECK.finish();
    }

    // Promise 10
    private static void candidates() {
        ComponentContainer c = new ComponentContainer();
        for (int i = 0; i < 20; i++) {
            c.add(i % 2 == 0 ? 1 : 32768, i % 3);
        }
        CHECK.same("type 0", c.candidates(0, -1), 0x55555);
        CHECK.same("type 15", c.candidates(15, -1), 0xAAAAA);
        CHECK.same("type 7", c.candidates(7, -1), 0);
        CHECK.same("no qualifier is not 0", c.candidates(0, 0), 0);
        c.set(2, ComponentContainer.QUALIFIER, 0);
        c.set(4, ComponentContainer.QUALIFIER, 9);
        CHECK.same("qualifier 0", c.candidates(0, 0), 4);
        CHECK.same("qualifier 9", c.candidates(0, 9), 16);
        CHECK.same("qualifier 9 of another type", c.candidates(15, 9), 0);
        CHECK.same("any qualifier", c.candidates(0, -1), 0x55555);
        c.set(2, ComponentContainer.PROFILE, 0);
        CHECK.same("without the inactive one", c.candidates(0, -1), 0x55551);
        CHECK.same("the inactive one", c.candidates(0, 0), 0);
        c.profile(0, true);
        CHECK.same("active again", c.candidates(0, 0), 4);
        CHECK.same("nothing is constructed", c.instances(), 0);
    }

    // Promise 11
    private static void chosen() {
        ComponentContainer c = new ComponentContainer();
        CHECK.same("no candidate", c.chosen(0, -1), -1);
        c.add(1, 0);
        CHECK.same("one candidate", c.chosen(0, -1), 0);
        c.add(3, 0);
        CHECK.same("two", c.chosen(0, -1), -1);
        CHECK.same("one of the other type", c.chosen(1, -1), 1);
        c.set(1, ComponentContainer.PRIMARY, 1);
        CHECK.same("one of two is primary", c.chosen(0, -1), 1);
        c.add(1, 0);
        CHECK.same("one of three is primary", c.chosen(0, -1), 1);
        c.set(0, ComponentContainer.PRIMARY, 1);
        CHECK.same("two of three are primary", c.chosen(0, -1), -1);
        c.set(2, ComponentContainer.QUALIFIER, 3);
        CHECK.same("by the qualifier, not primary", c.chosen(0, 3), 2);
        c.set(0, ComponentContainer.PROFILE, 1);
        CHECK.same("an inactive primary does not count", c.chosen(0, -1), 1);
        c.set(1, ComponentContainer.TYPES, 2);
        CHECK.same("one is left", c.chosen(0, -1), 2);
        CHECK.same("nothing is recorded", c.failureKind(), 0);
    }

    private static void wrongArguments() {
        ComponentContainer c = new ComponentContainer();
        c.add(65535, 0);
        int[][] wrong = {{-1, -1}, {16, -1}, {0, -2}, {0, 10}, {Integer.MIN_VALUE, 0}, {Integer.MAX_VALUE, 0},
            {0, Integer.MIN_VALUE}, {0, Integer.MAX_VALUE}};
        for (int[] w : wrong) {
            String pair = "(" + w[0] + ", " + w[1] + ")";
            CHECK.badArgument("candidates" + pair, () -> c.candidates(w[0], w[1]));
            CHECK.badArgument("chosen" + pair, () -> c.chosen(w[0], w[1]));
            CHECK.badArgument("resolve" + pair, () -> c.resolve(w[0], w[1]));
        }
        CHECK.same("nothing has changed", c.instances() + c.failureKind(), 0);
    }

    // Promise 12
    private static void problemKinds() {
        ComponentContainer c = new ComponentContainer();
        c.add(1, 2);
        CHECK.same("no dependency, no scope open", c.problem(0), 0);
        c.set(0, ComponentContainer.FAIL_AT, 0);
        c.set(0, ComponentContainer.PROFILE, 0);
        CHECK.same("broken and inactive", c.problem(0), 0);
        c.depend(0, 1, -1, ComponentContainer.OPTIONAL);
        c.depend(0, 1, -1, ComponentContainer.ALL);
        c.depend(0, 1, -1, ComponentContainer.LATER);
        CHECK.same("nothing required", c.problem(0), 0);
        c.depend(0, 1, -1, ComponentContainer.REQUIRED);
        CHECK.same("no candidate", c.problem(0), ComponentContainer.NO_CANDIDATE);
        c.add(2, 0);
        CHECK.same("one candidate", c.problem(0), 0);
        c.add(2, 1);
        CHECK.same("two candidates, the optional one is met", c.problem(0), ComponentContainer.AMBIGUOUS);
        c.set(2, ComponentContainer.PRIMARY, 1);
        CHECK.same("one is primary", c.problem(0), 0);
        c.depend(2, 1, -1, ComponentContainer.ALL);
        CHECK.same("itself by ALL", c.problem(0), ComponentContainer.CYCLE);
        CHECK.same("the other one", c.problem(1), 0);
        CHECK.same("nothing is constructed", c.instances() + c.event(-1), 0);
        CHECK.failure(c, "nothing is recorded", 0, -1);
    }

    private static void problemsOfAll() {
        for (int broken = 0; broken < 20; broken++) {
            ComponentContainer c = new ComponentContainer();
            for (int i = 0; i < 20; i++) {
                c.add(1, i % 3);
            }
            int asking = broken == 19 ? 0 : 19;
            c.set(asking, ComponentContainer.TYPES, 2);
            c.depend(asking, 0, -1, ComponentContainer.ALL);
            CHECK.same("no candidate has a problem", c.problem(asking), 0);
            c.depend(broken, 5, -1, ComponentContainer.REQUIRED);
            CHECK.same("candidate " + broken + " has a problem", c.problem(asking), ComponentContainer.NO_CANDIDATE);
        }
    }

    private static void problemsOrder() {
        ComponentContainer all = new ComponentContainer();
        all.add(1, 0);
        all.add(1, 0);
        all.add(2, 0);
        all.depend(2, 0, -1, ComponentContainer.ALL);
        all.depend(1, 5, -1, ComponentContainer.REQUIRED);
        all.depend(0, 1, -1, ComponentContainer.REQUIRED);
        CHECK.same("candidates by ascending numbers", all.problem(2), ComponentContainer.CYCLE);
        ComponentContainer c = new ComponentContainer();
        c.add(1, 0);
        c.add(2, 0);
        c.depend(1, 5, -1, ComponentContainer.REQUIRED);
        c.depend(0, 1, -1, ComponentContainer.REQUIRED);
        c.depend(0, 0, -1, ComponentContainer.REQUIRED);
        CHECK.same("depth first", c.problem(0), ComponentContainer.NO_CANDIDATE);
        c.clear(0);
        c.depend(0, 0, -1, ComponentContainer.OPTIONAL);
        c.depend(0, 1, -1, ComponentContainer.REQUIRED);
        CHECK.same("by the numbers", c.problem(0), ComponentContainer.CYCLE);
        c.clear(0);
        c.clear(1);
        c.begin();
        c.resolve(1, -1);
        c.depend(1, 0, -1, ComponentContainer.REQUIRED);
        c.depend(0, 1, -1, ComponentContainer.REQUIRED);
        CHECK.same("as if no instances existed", c.problem(0), ComponentContainer.CYCLE);
        CHECK.same("though it can be constructed", c.resolve(0, -1), 1);
    }

    // 6 ways from each component to the next one: tried one by one they would never end.
    private static void problemOfWideGraph() {
        ComponentContainer c = new ComponentContainer();
        for (int i = 0; i < 15; i++) {
            c.add(1 << i, 1);
            for (int k = 0; k < 6; k++) {
                c.depend(i, i + 1, -1, ComponentContainer.REQUIRED);
            }
        }
        CHECK.same("the end is missing", c.problem(0), ComponentContainer.NO_CANDIDATE);
        c.add(32768, 1);
        CHECK.same("no problem", c.problem(0), 0);
        CHECK.same("needs", c.needs(0), 0xFFFE);
        c.depend(15, 0, -1, ComponentContainer.REQUIRED);
        CHECK.same("a long cycle", c.problem(7), ComponentContainer.CYCLE);
        CHECK.same("needs itself", c.needs(7), 0xFFFF);
    }

    // Promise 13
    private static void needs() {
        ComponentContainer c = new ComponentContainer();
        c.add(1, 0);
        c.add(2, 0);
        c.add(4, 0);
        c.add(4, 0);
        CHECK.same("without dependencies", c.needs(0), 0);
        c.depend(0, 1, -1, ComponentContainer.REQUIRED);
        CHECK.same("REQUIRED", c.needs(0), 2);
        c.depend(1, 2, -1, ComponentContainer.OPTIONAL);
        CHECK.same("ambiguous", c.needs(0), 2);
        c.set(3, ComponentContainer.PRIMARY, 1);
        CHECK.same("OPTIONAL", c.needs(0), 10);
        c.depend(1, 2, -1, ComponentContainer.ALL);
        CHECK.same("ALL", c.needs(0), 14);
        c.depend(2, 0, -1, ComponentContainer.LATER);
        CHECK.same("LATER is not needed", c.needs(0), 14);
        c.depend(2, 0, -1, ComponentContainer.REQUIRED);
        CHECK.same("itself through others", c.needs(0), 15);
        CHECK.same("one outside of the cycle", c.needs(3), 0);
        c.set(1, ComponentContainer.PROFILE, 4);
        CHECK.same("inactive ones are not needed", c.needs(0), 0);
        CHECK.same("an inactive one needs others", c.needs(1), 13);
        c.depend(3, 2, 7, ComponentContainer.ALL);
        CHECK.same("no candidate for the qualifier", c.needs(3), 0);
        c.set(3, ComponentContainer.QUALIFIER, 7);
        CHECK.same("itself directly", c.needs(3), 8);
        c.depend(0, 9, -1, ComponentContainer.REQUIRED);
        CHECK.same("a type without candidate", c.needs(0), 0);
    }

    // A chain of all 20 components against their numbers and with them, by qualifiers.
    private static void needsLongWay() {
        for (int step = -1; step <= 1; step += 2) {
            ComponentContainer c = new ComponentContainer();
            for (int i = 0; i < 20; i++) {
                c.add(1 << i / 10, 0);
                c.set(i, ComponentContainer.QUALIFIER, i % 10);
            }
            for (int i = 0; i < 20; i++) {
                int next = i + step;
                if (next >= 0 && next < 20) {
                    c.depend(i, next / 10, next % 10, ComponentContainer.REQUIRED);
                }
            }
            int first = step == 1 ? 0 : 19;
            CHECK.same("all others, step " + step, c.needs(first), 0xFFFFF & ~(1 << first));
            CHECK.same("no problem, step " + step, c.problem(first), 0);
            CHECK.same("resolve, step " + step, c.resolve(first / 10, first % 10), 19);
            int last = 19 - first;
            c.depend(last, first / 10, first % 10, ComponentContainer.REQUIRED);
            CHECK.same("a cycle of all, step " + step, c.problem(first), ComponentContainer.CYCLE);
            c.close();
            CHECK.badState("resolve a cycle of all", () -> c.resolve(first / 10, first % 10));
            CHECK.same("detail", c.failureDetail(), first);
            CHECK.same("length of the chain", c.failureChain(-1), 20);
            CHECK.same("end of the chain", c.failureChain(19), last);
        }
    }
}
