/** Promises 1 to 9: a new object, components, their properties and dependencies, profiles. */
public final class ComponentsTest {
    private static final int LEAST = Integer.MIN_VALUE;
    private static final int MOST = Integer.MAX_VALUE;
    private static final Check CHECK = new Check("ComponentsTest");

    public static void main(String[] args) {
        newObject();
        add();
        setAndProperty();
        depend();
        clear();
        dependency();
        profile();
        noSuchComponent();
        CHECK.finish();
    }

    // Promise 1
    private static void newObject() {
        ComponentContainer c = new ComponentContainer();
        CHECK.same("components()", c.components(), 0);
        CHECK.same("instances()", c.instances(), 0);
        CHECK.events(c, "new");
        CHECK.failure(c, "new", 0, -1);
        CHECK.same("close()", c.close(), 0);
        CHECK.same("start()", c.start(), 0);
        CHECK.same("candidates(0, -1)", c.candidates(0, -1), 0);
        CHECK.badState("end()", () -> c.end());
        for (int profile = 0; profile <= 7; profile++) {
            CHECK.same("profile " + profile + " is off", c.profile(profile, false), false);
        }
    }

    // Promises 2 and 9
    private static void add() {
        ComponentContainer c = new ComponentContainer();
        int[][] wrong = {{0, 0}, {-1, 0}, {65536, 0}, {LEAST, 0}, {MOST, 0}, {1, -1}, {1, 3}, {1, LEAST}, {1, MOST}};
        for (int[] pair : wrong) {
            CHECK.badArgument("add(" + pair[0] + ", " + pair[1] + ")", () -> c.add(pair[0], pair[1]));
        }
        CHECK.same("components() after wrong ones", c.components(), 0);
        for (int i = 0; i < 20; i++) {
            CHECK.same("add " + i, c.add(i % 2 == 0 ? 1 : 65535, i % 3), i);
            CHECK.same("components()", c.components(), i + 1);
        }
        CHECK.badState("the 21st", () -> c.add(1, 0));
        CHECK.badArgument("arguments come first", () -> c.add(0, 0));
        CHECK.same("components() when full", c.components(), 20);
        int[] first = {65535, 1, -1, 0, 0, -1, -1};
        for (int property = 0; property < 7; property++) {
            CHECK.same("first value " + property, c.property(19, property), first[property]);
        }
        CHECK.same("dependencies at first", c.dependency(19, -1, 0), 0);
    }

    // Promises 3 and 4
    private static void setAndProperty() {
        ComponentContainer c = new ComponentContainer();
        c.add(5, 2);
        c.add(9, 1);
        int[] lowest = {1, 0, -1, 0, 0, -1, -1};
        int[] highest = {65535, 2, 9, 1, 1, 7, 99};
        int[] first = {5, 2, -1, 0, 0, -1, -1};
        for (int property = 0; property < 7; property++) {
            int p = property;
            CHECK.same("set lowest of " + p, c.set(0, p, lowest[p]), first[p]);
            CHECK.same("set highest of " + p, c.set(0, p, highest[p]), lowest[p]);
            for (int value : new int[] {lowest[p] - 1, highest[p] + 1, LEAST, MOST}) {
                CHECK.badArgument("set(0, " + p + ", " + value + ")", () -> c.set(0, p, value));
            }
            CHECK.same("property(0, " + p + ")", c.property(0, p), highest[p]);
        }
        for (int property : new int[] {-1, 7, LEAST, MOST}) {
            CHECK.badArgument("set property " + property, () -> c.set(0, property, 1));
            CHECK.badArgument("property " + property, () -> c.property(0, property));
        }
        CHECK.same("the other's types", c.property(1, 0), 9);
        CHECK.same("the other's qualifier", c.property(1, 2), -1);
    }

    // Promise 5
    private static void depend() {
        ComponentContainer c = new ComponentContainer();
        c.add(1, 0);
        c.add(1, 0);
        int[][] wrong = {{-1, 0, 0}, {16, 0, 0}, {LEAST, 0, 0}, {MOST, 0, 0}, {0, -2, 0}, {0, 10, 0}, {0, MOST, 0},
            {0, LEAST, 0}, {0, 0, -1}, {0, 0, 4}, {0, 0, MOST}, {0, 0, LEAST}};
        for (int[] w : wrong) {
            CHECK.badArgument("depend(0, " + w[0] + ", " + w[1] + ", " + w[2] + ")",
                    () -> c.depend(0, w[0], w[1], w[2]));
        }
        int[][] right = {{0, -1, 0}, {15, 9, 1}, {7, 0, 2}, {3, 4, 3}, {15, -1, 3}, {0, 9, 0}};
        for (int i = 0; i < right.length; i++) {
            CHECK.same("depend " + i, c.depend(0, right[i][0], right[i][1], right[i][2]), i);
        }
        CHECK.badState("the seventh", () -> c.depend(0, 0, -1, 0));
        CHECK.badArgument("arguments come first", () -> c.depend(0, 16, -1, 0));
        for (int i = 0; i < right.length; i++) {
            for (int part = 0; part < 3; part++) {
                CHECK.same("part " + part + " of " + i, c.dependency(0, i, part), right[i][part]);
            }
        }
        CHECK.same("the other's first", c.depend(1, 2, -1, 0), 0);
    }

    // Promise 6
    private static void clear() {
        ComponentContainer c = new ComponentContainer();
        c.add(1, 0);
        c.add(1, 0);
        CHECK.same("clear without any", c.clear(0), 0);
        c.depend(0, 1, 2, 3);
        c.depend(0, 1, 2, 3);
        c.depend(1, 1, 2, 3);
        CHECK.same("clear(0)", c.clear(0), 2);
        CHECK.same("none is left", c.dependency(0, 0, 0), -1);
        CHECK.same("how many are left", c.dependency(0, -1, 0), 0);
        CHECK.same("the other keeps its own", c.dependency(1, -1, 0), 1);
        CHECK.same("numbers begin anew", c.depend(0, 4, 5, 1), 0);
        CHECK.same("the new one", c.dependency(0, 0, 1), 5);
    }

    // Promise 7
    private static void dependency() {
        ComponentContainer c = new ComponentContainer();
        c.add(1, 0);
        c.depend(0, 14, 8, 2);
        for (int part = 0; part < 3; part++) {
            CHECK.same("how many, part " + part, c.dependency(0, -1, part), 1);
        }
        for (int index : new int[] {1, 6, -2, LEAST, MOST}) {
            CHECK.same("dependency " + index, c.dependency(0, index, 0), -1);
        }
        for (int part : new int[] {-1, 3, LEAST, MOST}) {
            CHECK.badArgument("part " + part, () -> c.dependency(0, 0, part));
            CHECK.badArgument("part " + part + " for index -1", () -> c.dependency(0, -1, part));
            CHECK.badArgument("part " + part + " for no dependency", () -> c.dependency(0, 5, part));
        }
    }

    // Promise 8
    private static void profile() {
        ComponentContainer c = new ComponentContainer();
        for (int profile : new int[] {-1, 8, LEAST, MOST}) {
            CHECK.badArgument("profile " + profile, () -> c.profile(profile, true));
        }
        c.add(1, 0);
        c.set(0, ComponentContainer.PROFILE, 7);
        CHECK.same("inactive", c.candidates(0, -1), 0);
        CHECK.same("profile(0, true)", c.profile(0, true), false);
        CHECK.same("another profile", c.candidates(0, -1), 0);
        CHECK.same("profile(7, true)", c.profile(7, true), false);
        CHECK.same("profile(7, true) again", c.profile(7, true), true);
        CHECK.same("active", c.candidates(0, -1), 1);
        CHECK.same("profile(0, false)", c.profile(0, false), true);
        CHECK.same("still active", c.candidates(0, -1), 1);
        CHECK.same("profile(7, false)", c.profile(7, false), true);
        CHECK.same("profile(7, false) again", c.profile(7, false), false);
        CHECK.same("inactive again", c.candidates(0, -1), 0);
    }

    private static void noSuchComponent() {
        ComponentContainer c = new ComponentContainer();
        c.add(1, 0);
        for (int component : new int[] {-1, 1, 20, LEAST, MOST}) {
            CHECK.outOfBounds("set(" + component + ")", () -> c.set(component, 99, 99));
            CHECK.outOfBounds("property(" + component + ")", () -> c.property(component, 99));
            CHECK.outOfBounds("depend(" + component + ")", () -> c.depend(component, 99, 99, 99));
            CHECK.outOfBounds("clear(" + component + ")", () -> c.clear(component));
            CHECK.outOfBounds("dependency(" + component + ")", () -> c.dependency(component, -1, 99));
            CHECK.outOfBounds("problem(" + component + ")", () -> c.problem(component));
            CHECK.outOfBounds("needs(" + component + ")", () -> c.needs(component));
        }
    }
}
