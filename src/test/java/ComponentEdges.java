/** Edges of the Description's COMPONENTS and of promises 1 to 9. */
final class ComponentEdges extends Edges {
    private static final String FAILS_AT = "FAIL_AT (-1 to 99; -1): if this is not -1, a construction of the component"
            + " fails if at least so many of its instances have been completed before (since the container was created).";

    private static final int[] LOWEST = {1, 0, -1, 0, 0, -1, -1};
    private static final int[] HIGHEST = {65535, 2, 9, 1, 1, 7, 99};
    private static final int[] FIRST = {1, 2, -1, 0, 0, -1, -1};

    static void run() {
        masks();
        twentyComponents();
        typesProperty();
        scopeProperty();
        qualifierProperty();
        primaryAndLazyProperties();
        profileProperty();
        profilesAtFirst();
        failAtProperty();
        failAtCounts();
        sixDependencies();
        partsOfDependencies();
        changesLeaveInstances();
        newObject();
        twoObjects();
        add();
        addRefused();
        set();
        setRefused();
        property();
        depend();
        dependRefused();
        clear();
        dependency();
        dependencyRefused();
        profile();
        components();
    }

    // ---- Description

    private static void masks() {
        description("A mask is a set as bits: bit k stands for number k.");
        for (int type = 0; type <= 15; type++) {
            ComponentContainer c = new ComponentContainer();
            c.add(1 << type, SINGLETON);
            for (int asked = 0; asked <= 15; asked++) {
                CHECK.same("bit " + type + ", candidates(" + asked + ", -1)", c.candidates(asked, NONE),
                        asked == type ? 1 : 0);
            }
        }
        ComponentContainer c = twenty(SINGLETON);
        for (int component = 0; component < 20; component++) {
            c.set(component, TYPES, 2);
            CHECK.same("component " + component, c.candidates(1, NONE), 1 << component);
            need(c, component == 0 ? 19 : 0, 1, REQUIRED);
            CHECK.same("needed " + component, c.needs(component == 0 ? 19 : 0), 1 << component);
            c.clear(component == 0 ? 19 : 0);
            c.set(component, TYPES, 1);
        }
    }

    private static void twentyComponents() {
        description("Up to 20 components can be added, numbered from 0.");
        ComponentContainer c = new ComponentContainer();
        for (int component = 0; component < 20; component++) {
            CHECK.same("add", c.add(1, PROTOTYPE), component);
        }
        CHECK.badState("the 21st", () -> c.add(1, PROTOTYPE));
        CHECK.badState("the 21st again", () -> c.add(65535, SCOPED));
        CHECK.same("components()", c.components(), 20);
        CHECK.same("all of them", c.candidates(0, NONE), 0xFFFFF);
        CHECK.outOfBounds("none has the number 20", () -> c.property(20, TYPES));
    }

    private static void typesProperty() {
        description("TYPES (1 to 65535; as it is added): the mask of the types, 0 to 15, that it provides.");
        ComponentContainer c = new ComponentContainer();
        c.add(1, SINGLETON);
        c.add(65535, SINGLETON);
        CHECK.same("the least mask", c.property(0, TYPES), 1);
        CHECK.same("the greatest mask", c.property(1, TYPES), 65535);
        CHECK.same("both provide type 0", c.candidates(0, NONE), 3);
        for (int type = 1; type <= 15; type++) {
            CHECK.same("one provides type " + type, c.candidates(type, NONE), 2);
        }
        refusesOutside("types", 1, 65535, value -> c.set(0, TYPES, value));
        c.set(0, TYPES, 32768);
        CHECK.same("type 15 now", c.candidates(15, NONE), 3);
        CHECK.same("no more type 0", c.candidates(0, NONE), 2);
    }

    private static void scopeProperty() {
        description("SCOPE (0 to 2; as it is added): SINGLETON (0), PROTOTYPE (1) or SCOPED (2).");
        ComponentContainer c = with(0, 1, 2);
        for (int scope = 0; scope <= 2; scope++) {
            CHECK.same("as it is added", c.property(scope, SCOPE), scope);
        }
        refusesOutside("scope", 0, 2, value -> c.set(0, SCOPE, value));
        c.begin();
        for (int scope = 0; scope <= 2; scope++) {
            int component = scope;
            int first = c.resolve(component, NONE);
            CHECK.same("another instance, scope " + scope, c.resolve(component, NONE) != first, scope == 1);
        }
        CHECK.same("one belongs to the scope", c.end(), 1);
        CHECK.same("one is a singleton", c.close(), 1);
    }

    private static void qualifierProperty() {
        description("QUALIFIER (-1 to 9; -1): a qualifier, or -1 for none.");
        ComponentContainer c = with(SINGLETON);
        CHECK.same("at first", c.property(0, QUALIFIER), -1);
        for (int qualifier = 0; qualifier <= 9; qualifier++) {
            CHECK.same("none at first", c.candidates(0, qualifier), 0);
        }
        for (int qualifier = 0; qualifier <= 9; qualifier++) {
            CHECK.same("set", c.set(0, QUALIFIER, qualifier), qualifier - 1);
            CHECK.same("has it", c.candidates(0, qualifier), 1);
            CHECK.same("not another", c.candidates(0, 9 - qualifier), 0);
        }
        refusesOutside("qualifier", -1, 9, value -> c.set(0, QUALIFIER, value));
        CHECK.same("none again", c.set(0, QUALIFIER, -1), 9);
        CHECK.same("not qualifier 9", c.candidates(0, 9), 0);
        CHECK.same("not qualifier 0", c.candidates(0, 0), 0);
    }

    private static void primaryAndLazyProperties() {
        description("PRIMARY (0 or 1; 0), LAZY (0 or 1; 0).");
        for (int property : new int[] {PRIMARY, LAZY}) {
            ComponentContainer c = with(SINGLETON);
            CHECK.same("at first", c.property(0, property), 0);
            refusesOutside("property " + property + " of 0", 0, 1, value -> c.set(0, property, value));
            CHECK.same("set to 1", c.set(0, property, 1), 0);
            refusesOutside("property " + property + " of 1", 0, 1, value -> c.set(0, property, value));
            CHECK.same("set to 0", c.set(0, property, 0), 1);
            CHECK.same("it is 0", c.property(0, property), 0);
        }
    }

    private static void profileProperty() {
        description("PROFILE (-1 to 7; -1): the component is active if this is -1, or if this profile is on.");
        ComponentContainer c = with(SINGLETON);
        CHECK.same("at first", c.property(0, PROFILE), -1);
        CHECK.same("active at first", c.candidates(0, NONE), 1);
        for (int profile = 0; profile <= 7; profile++) {
            CHECK.same("set", c.set(0, PROFILE, profile), profile - 1);
            CHECK.same("off: inactive", c.candidates(0, NONE), 0);
            for (int other = 0; other <= 7; other++) {
                c.profile(other, other != profile);
            }
            CHECK.same("all others on: inactive", c.candidates(0, NONE), 0);
            for (int other = 0; other <= 7; other++) {
                c.profile(other, other == profile);
            }
            CHECK.same("on alone: active", c.candidates(0, NONE), 1);
            c.profile(profile, false);
        }
        refusesOutside("profile", -1, 7, value -> c.set(0, PROFILE, value));
        c.set(0, PROFILE, -1);
        CHECK.same("of none: active with all off", c.candidates(0, NONE), 1);
    }

    private static void profilesAtFirst() {
        description("All profiles are off at first.");
        ComponentContainer c = with(SINGLETON);
        for (int profile = 0; profile <= 7; profile++) {
            c.set(0, PROFILE, profile);
            CHECK.same("inactive with profile " + profile, c.candidates(0, NONE), 0);
            CHECK.same("profile " + profile + " was off", c.profile(profile, true), false);
            CHECK.same("active with profile " + profile, c.candidates(0, NONE), 1);
        }
    }

    private static void failAtProperty() {
        description(FAILS_AT);
        ComponentContainer c = with(PROTOTYPE);
        CHECK.same("at first", c.property(0, FAIL_AT), -1);
        refusesOutside("FAIL_AT", -1, 99, value -> c.set(0, FAIL_AT, value));
        c.set(0, FAIL_AT, 0);
        resolveFails(c, "FAIL_AT 0", 0);
        CHECK.same("kind", c.failureKind(), BROKEN);
        c.set(0, FAIL_AT, 1);
        CHECK.same("FAIL_AT 1: the first", c.resolve(0, NONE), 0);
        resolveFails(c, "FAIL_AT 1, the second", 0);
        c.set(0, FAIL_AT, 0);
        resolveFails(c, "more than so many", 0);
        c.set(0, FAIL_AT, 99);
        for (int instance = 1; instance < 99; instance++) {
            CHECK.same("FAIL_AT 99", c.resolve(0, NONE), instance);
        }
        resolveFails(c, "FAIL_AT 99, the hundredth", 0);
        CHECK.failure(c, "the hundredth", BROKEN, 0, 0);
        c.set(0, FAIL_AT, -1);
        CHECK.same("the hundredth with -1", c.resolve(0, NONE), 99);
        CHECK.same("one more with -1", c.resolve(0, NONE), 100);
        c.set(0, FAIL_AT, 99);
        resolveFails(c, "more than 99", 0);
    }

    private static void failAtCounts() {
        description(FAILS_AT);
        ComponentContainer c = with(SINGLETON, PROTOTYPE);
        c.set(0, FAIL_AT, 2);
        for (int i = 0; i < 5; i++) {
            c.resolve(1, NONE);
        }
        CHECK.same("another's do not count", c.resolve(0, NONE), 5);
        CHECK.same("an existing one is not constructed", c.resolve(0, NONE), 5);
        c.close();
        need(c, 0, NOBODYS_TYPE, REQUIRED);
        resolveFails(c, "not completed", 0);
        c.clear(0);
        CHECK.same("one that was not completed does not count", c.resolve(0, NONE), 6);
        c.close();
        resolveFails(c, "destroyed ones count", 0);
        CHECK.failure(c, "destroyed ones count", BROKEN, 0, 0);
        c.set(0, SCOPE, PROTOTYPE);
        resolveFails(c, "as a PROTOTYPE, too", 0);
    }

    private static void sixDependencies() {
        description("A component has up to 6 dependencies, numbered from 0, none at first.");
        ComponentContainer c = with(SINGLETON, SINGLETON);
        CHECK.same("none at first", c.dependency(0, -1, 0), 0);
        CHECK.same("not number 0", c.dependency(0, 0, 0), NONE);
        for (int index = 0; index < 6; index++) {
            CHECK.same("depend", c.depend(0, index, NONE, OPTIONAL), index);
            CHECK.same("how many", c.dependency(0, -1, 0), index + 1);
        }
        CHECK.badState("the seventh", () -> c.depend(0, 0, NONE, OPTIONAL));
        CHECK.same("how many then", c.dependency(0, -1, 0), 6);
        CHECK.same("number 5", c.dependency(0, 5, 0), 5);
        CHECK.same("not number 6", c.dependency(0, 6, 0), NONE);
        CHECK.same("the other has none", c.dependency(1, -1, 0), 0);
    }

    private static void partsOfDependencies() {
        description("A dependency has a type (0 to 15), a qualifier (0 to 9, or -1 for any), and a mode: REQUIRED (0),"
                + " OPTIONAL (1), ALL (2) or LATER (3).");
        ComponentContainer c = with(SINGLETON);
        int[][] right = {{0, -1, 0}, {15, -1, 1}, {0, 0, 2}, {15, 9, 3}, {14, 8, 3}, {1, 1, 0}};
        for (int index = 0; index < 6; index++) {
            int[] parts = right[index];
            c.depend(0, parts[0], parts[1], parts[2]);
            for (int part = 0; part < 3; part++) {
                CHECK.same("part " + part + " of " + index, c.dependency(0, index, part), parts[part]);
            }
        }
        c.clear(0);
        refusesOutside("type", 0, 15, value -> c.depend(0, value, NONE, REQUIRED));
        refusesOutside("qualifier", -1, 9, value -> c.depend(0, 0, value, REQUIRED));
        refusesOutside("mode", 0, 3, value -> c.depend(0, 0, NONE, value));
        CHECK.same("none was added", c.dependency(0, -1, 0), 0);
    }

    private static void changesLeaveInstances() {
        description("Changes of components do not affect instances that exist.");
        ComponentContainer c = with(SINGLETON, PROTOTYPE);
        need(c, 0, 1, REQUIRED);
        need(c, 0, 1, ALL);
        c.resolve(0, NONE);
        c.set(0, TYPES, 4);
        c.set(0, QUALIFIER, 9);
        c.set(0, FAIL_AT, 0);
        c.set(0, PROFILE, 7);
        c.clear(0);
        need(c, 0, 1, LATER);
        c.set(1, SCOPE, SINGLETON);
        CHECK.same("alive", c.isAlive(2), true);
        CHECK.same("its component", c.componentOf(2), 0);
        CHECK.same("what was injected", c.injected(2, 0), 0);
        CHECK.same("how many were injected", c.injected(2, 1), 1);
        CHECK.badArgument("no third dependency", () -> c.injected(2, 2));
        CHECK.events(c, "no event", 0, 2, 4);
        c.profile(7, true);
        CHECK.same("the same singleton by the new type", c.resolve(2, 9), 2);
        CHECK.same("the instance of the PROTOTYPE is no singleton", c.resolve(1, NONE), 3);
        CHECK.same("close() leaves the instance of the PROTOTYPE", c.close(), 2);
        CHECK.same("it is alive", c.isAlive(0), true);
    }

    // ---- Promise 1

    private static void newObject() {
        promise(1, "Creates a container without components, instances and open scopes.");
        ComponentContainer c = new ComponentContainer();
        CHECK.same("components()", c.components(), 0);
        CHECK.same("instances()", c.instances(), 0);
        CHECK.outOfBounds("no component 0", () -> c.property(0, TYPES));
        CHECK.outOfBounds("no instance 0", () -> c.isAlive(0));
        for (int type = 0; type <= 15; type++) {
            CHECK.same("no candidate for type " + type, c.candidates(type, NONE), 0);
        }
        CHECK.badState("no scope", () -> c.end());
        CHECK.events(c, "no event");
        CHECK.failure(c, "no failure", 0, NONE);
        CHECK.same("start() constructs nothing", c.start(), 0);
        CHECK.same("close() destroys nothing", c.close(), 0);
        CHECK.same("the first scope", c.begin(), 1);
        CHECK.same("the first component", c.add(1, SCOPED), 0);
        CHECK.same("the first instance", c.resolve(0, NONE), 0);
    }

    private static void twoObjects() {
        promise(1, "Creates a container without components, instances and open scopes.");
        ComponentContainer used = with(SINGLETON);
        used.profile(0, true);
        used.resolve(0, NONE);
        used.begin();
        resolveFails(used, "used", NOBODYS_TYPE);
        ComponentContainer c = new ComponentContainer();
        CHECK.same("components()", c.components(), 0);
        CHECK.same("instances()", c.instances(), 0);
        CHECK.events(c, "no event");
        CHECK.failure(c, "no failure", 0, NONE);
        CHECK.same("profile 0", c.profile(0, false), false);
        CHECK.badState("no scope", () -> c.end());
        CHECK.same("the used one keeps its own", used.components() + used.instances(), 2);
    }

    // ---- Promise 2

    private static void add() {
        promise(2, "Adds a component without dependencies.");
        ComponentContainer c = new ComponentContainer();
        for (int component = 0; component < 20; component++) {
            c.add(1, SINGLETON);
            CHECK.same("dependencies of " + component, c.dependency(component, -1, 0), 0);
            CHECK.same("not number 0 of " + component, c.dependency(component, 0, 0), NONE);
            for (int index = 0; index < 6; index++) {
                need(c, component, 0, REQUIRED);
            }
        }
        promise(2, "Returns its number.");
        ComponentContainer numbered = new ComponentContainer();
        for (int component = 0; component < 20; component++) {
            CHECK.badArgument("a refused one", () -> numbered.add(0, SINGLETON));
            CHECK.same("add", numbered.add(component + 1, component % 3), component);
            CHECK.same("its types", numbered.property(component, TYPES), component + 1);
            CHECK.same("its scope", numbered.property(component, SCOPE), component % 3);
        }
        promise(2, "`types`: the mask of its types, 1 to 65535");
        ComponentContainer masks = new ComponentContainer();
        for (int types : new int[] {1, 2, 32767, 32768, 65534, 65535}) {
            int component = masks.add(types, SINGLETON);
            CHECK.same("types " + types, masks.property(component, TYPES), types);
        }
        promise(2, "`scope`: SINGLETON, PROTOTYPE or SCOPED");
        ComponentContainer scopes = with(SINGLETON, PROTOTYPE, SCOPED);
        for (int component = 0; component < 3; component++) {
            CHECK.same("scope " + component, scopes.property(component, SCOPE), component);
        }
    }

    private static void addRefused() {
        promise(2, "Throws `IllegalArgumentException` if types or scope is out of range");
        ComponentContainer c = new ComponentContainer();
        refusesOutside("types", 1, 65535, value -> c.add(value, SINGLETON));
        CHECK.badArgument("types -1", () -> c.add(-1, SINGLETON));
        refusesOutside("scope", 0, 2, value -> c.add(1, value));
        CHECK.badArgument("both", () -> c.add(0, 3));
        CHECK.same("none was added", c.components(), 0);
        ComponentContainer full = twenty(SINGLETON);
        refusesOutside("types, full", 1, 65535, value -> full.add(value, SINGLETON));
        refusesOutside("scope, full", 0, 2, value -> full.add(1, value));
        promise(2, "Throws `IllegalStateException` if there are 20 components");
        CHECK.badState("the 21st", () -> full.add(1, SINGLETON));
        CHECK.badState("the 21st of other values", () -> full.add(65535, SCOPED));
        CHECK.same("components()", full.components(), 20);
        CHECK.same("the last one is as it was", full.property(19, TYPES), 1);
        CHECK.same("its scope", full.property(19, SCOPE), SINGLETON);
        ComponentContainer nearlyFull = new ComponentContainer();
        for (int component = 0; component < 19; component++) {
            nearlyFull.add(1, SINGLETON);
        }
        CHECK.same("the 20th", nearlyFull.add(1, SINGLETON), 19);
    }

    // ---- Promises 3 and 4

    private static void set() {
        for (int component : new int[] {0, 19}) {
            promise(3, "Sets a property of a component.");
            ComponentContainer c = twenty(SCOPED);
            for (int property = 0; property < 7; property++) {
                c.set(component, property, HIGHEST[property]);
                for (int other = 0; other < 7; other++) {
                    CHECK.same("property " + other + " after the highest " + property,
                            c.property(component, other), other <= property ? HIGHEST[other] : FIRST[other]);
                }
            }
            for (int property = 0; property < 7; property++) {
                c.set(component, property, LOWEST[property]);
                CHECK.same("the lowest " + property, c.property(component, property), LOWEST[property]);
                CHECK.same("the neighbour's " + property, c.property(component == 0 ? 1 : 18, property),
                        FIRST[property]);
            }
            promise(3, "Returns the previous value.");
            for (int property = 0; property < 7; property++) {
                int p = property;
                CHECK.same("first value " + p, twenty(SCOPED).set(component, p, HIGHEST[p]), FIRST[p]);
                CHECK.same("lowest " + p, c.set(component, p, HIGHEST[p]), LOWEST[p]);
                CHECK.same("highest " + p, c.set(component, p, HIGHEST[p]), HIGHEST[p]);
                CHECK.same("highest again " + p, c.set(component, p, LOWEST[p]), HIGHEST[p]);
            }
        }
    }

    private static void setRefused() {
        promise(3, "Throws `IndexOutOfBoundsException` if there is no such component");
        refusesNoComponent("set", (c, component) -> c.set(component, TYPES, 1));
        promise(3, "Throws `IllegalArgumentException` if there is no such property, or the value is out of its range");
        ComponentContainer c = with(SCOPED);
        refusesOutside("property", 0, 6, property -> c.set(0, property, 1));
        for (int property = 0; property < 7; property++) {
            int p = property;
            refusesOutside("value of " + p, LOWEST[p], HIGHEST[p], value -> c.set(0, p, value));
            CHECK.same("it is as it was", c.property(0, p), FIRST[p]);
            CHECK.throwsNothing("the lowest of " + p, () -> c.set(0, p, LOWEST[p]));
            CHECK.throwsNothing("the highest of " + p, () -> c.set(0, p, HIGHEST[p]));
        }
    }

    private static void property() {
        promise(4, "Returns a property of a component.");
        ComponentContainer c = twenty(SCOPED);
        for (int property = 0; property < 7; property++) {
            CHECK.same("first value of 0", c.property(0, property), FIRST[property]);
            CHECK.same("first value of 19", c.property(19, property), FIRST[property]);
            c.set(19, property, HIGHEST[property]);
            CHECK.same("highest of 19", c.property(19, property), HIGHEST[property]);
            CHECK.same("0 as it was", c.property(0, property), FIRST[property]);
        }
        promise(4, "Throws `IndexOutOfBoundsException` if there is no such component");
        refusesNoComponent("property", (x, component) -> x.property(component, TYPES));
        promise(4, "Throws `IllegalArgumentException` if there is no such property");
        refusesOutside("property", 0, 6, property -> c.property(0, property));
        CHECK.throwsNothing("property 6", () -> c.property(0, 6));
    }

    // ---- Promise 5

    private static void depend() {
        promise(5, "Adds a dependency to a component.");
        for (int component : new int[] {0, 19}) {
            ComponentContainer c = twenty(SINGLETON);
            c.depend(component, 15, 9, LATER);
            CHECK.same("how many", c.dependency(component, -1, 0), 1);
            CHECK.same("its type", c.dependency(component, 0, 0), 15);
            CHECK.same("none of another", c.dependency(component == 0 ? 1 : 18, -1, 0), 0);
        }
        promise(5, "Returns the number of the dependency.");
        ComponentContainer c = with(SINGLETON, SINGLETON);
        for (int index = 0; index < 6; index++) {
            CHECK.badArgument("a refused one", () -> c.depend(0, 0, NONE, 4));
            CHECK.same("depend(0, ..)", c.depend(0, index, NONE, LATER), index);
            CHECK.same("depend(1, ..)", c.depend(1, 15 - index, NONE, LATER), index);
        }
        promise(5, "`type`: 0 to 15");
        CHECK.same("type 15", c.dependency(1, 0, 0), 15);
        CHECK.same("type 0", c.dependency(0, 0, 0), 0);
        promise(5, "`qualifier`: -1 to 9");
        c.clear(0);
        for (int qualifier : new int[] {-1, 0, 1, 8, 9}) {
            int index = c.depend(0, 0, qualifier, LATER);
            CHECK.same("qualifier " + qualifier, c.dependency(0, index, 1), qualifier);
        }
        promise(5, "`mode`: REQUIRED, OPTIONAL, ALL or LATER");
        c.clear(0);
        for (int mode = 0; mode <= 3; mode++) {
            int index = c.depend(0, 0, 0, mode);
            CHECK.same("mode " + mode, c.dependency(0, index, 2), mode);
        }
    }

    private static void dependRefused() {
        promise(5, "Throws `IndexOutOfBoundsException` if there is no such component");
        refusesNoComponent("depend", (c, component) -> c.depend(component, 0, NONE, REQUIRED));
        promise(5, "Throws `IllegalArgumentException` if another argument is out of range");
        ComponentContainer c = with(SINGLETON);
        for (int held = 0; held <= 6; held += 6) {
            refusesOutside("type with " + held, 0, 15, value -> c.depend(0, value, NONE, REQUIRED));
            refusesOutside("qualifier with " + held, -1, 9, value -> c.depend(0, 0, value, REQUIRED));
            refusesOutside("mode with " + held, 0, 3, value -> c.depend(0, 0, NONE, value));
            CHECK.same("none was added", c.dependency(0, -1, 0), held);
            for (int index = 0; held == 0 && index < 6; index++) {
                CHECK.throwsNothing("the last types", () -> c.depend(0, 15, 9, LATER));
            }
        }
        promise(5, "Throws `IllegalStateException` if the component has 6 dependencies");
        CHECK.badState("the seventh", () -> c.depend(0, 0, NONE, REQUIRED));
        CHECK.same("how many", c.dependency(0, -1, 0), 6);
        CHECK.same("the sixth is as it was", c.dependency(0, 5, 0), 15);
        c.clear(0);
        CHECK.same("room again", c.depend(0, 0, NONE, REQUIRED), 0);
    }

    // ---- Promise 6

    private static void clear() {
        for (int held = 0; held <= 6; held++) {
            promise(6, "Removes all dependencies of a component.");
            ComponentContainer c = with(SINGLETON, SINGLETON);
            need(c, 1, 7, LATER);
            for (int index = 0; index < held; index++) {
                need(c, 0, NOBODYS_TYPE, REQUIRED);
            }
            int removed = c.clear(0);
            CHECK.same("none is left", c.dependency(0, -1, 0), 0);
            CHECK.same("not number 0", c.dependency(0, 0, 0), NONE);
            CHECK.same("none is met by a construction", c.resolve(0, NONE), 0);
            CHECK.badArgument("none was injected", () -> c.injected(0, 0));
            CHECK.same("the other's stays", c.dependency(1, 0, 0), 7);
            CHECK.same("numbers begin anew", c.depend(0, 3, 4, ALL), 0);
            CHECK.same("the new one", c.dependency(0, 0, 1), 4);
            promise(6, "Returns how many it had.");
            CHECK.same("of " + held, removed, held);
            CHECK.same("of one", c.clear(0), 1);
            CHECK.same("of none", c.clear(0), 0);
        }
        promise(6, "Throws `IndexOutOfBoundsException` if there is no such component");
        refusesNoComponent("clear", (c, component) -> c.clear(component));
    }

    // ---- Promise 7

    private static void dependency() {
        ComponentContainer c = with(SINGLETON);
        int[][] parts = {{0, -1, 0}, {15, 9, 3}, {1, 0, 1}, {14, 8, 2}, {7, 4, 3}, {8, 5, 1}};
        for (int held = 0; held <= 6; held++) {
            promise(7, "`index`: number of the dependency, or -1 for how many the component has");
            for (int part = 0; part < 3; part++) {
                CHECK.same("how many, part " + part, c.dependency(0, -1, part), held);
            }
            promise(7, "Returns a part of a dependency.");
            for (int index = 0; index < held; index++) {
                for (int part = 0; part < 3; part++) {
                    CHECK.same("part " + part + " of " + index, c.dependency(0, index, part), parts[index][part]);
                }
            }
            promise(7, "Returns the part, or the number of dependencies; NONE if there is no such dependency.");
            for (int index : new int[] {held, held + 1, -2, LEAST, MOST}) {
                CHECK.same("dependency " + index + " of " + held, c.dependency(0, index, 0), NONE);
                CHECK.same("mode " + index + " of " + held, c.dependency(0, index, 2), NONE);
            }
            if (held < 6) {
                c.depend(0, parts[held][0], parts[held][1], parts[held][2]);
            }
        }
        c.clear(0);
        CHECK.same("number 0 after clear", c.dependency(0, 0, 0), NONE);
        CHECK.same("number 5 after clear", c.dependency(0, 5, 0), NONE);
        promise(7, "`part`: 0 the type, 1 the qualifier, 2 the mode");
        c.depend(0, 5, 6, LATER);
        CHECK.same("the type", c.dependency(0, 0, 0), 5);
        CHECK.same("the qualifier", c.dependency(0, 0, 1), 6);
        CHECK.same("the mode", c.dependency(0, 0, 2), 3);
    }

    private static void dependencyRefused() {
        promise(7, "Throws `IndexOutOfBoundsException` if there is no such component");
        refusesNoComponent("dependency", (c, component) -> c.dependency(component, -1, 0));
        promise(7, "Throws `IllegalArgumentException` if part is out of range (also for index -1)");
        ComponentContainer c = with(SINGLETON);
        need(c, 0, 0, LATER);
        for (int index : new int[] {-1, 0, 1, 6, -2}) {
            refusesOutside("dependency " + index + ", part", 0, 2, part -> c.dependency(0, index, part));
            CHECK.throwsNothing("part 2", () -> c.dependency(0, index, 2));
        }
    }

    // ---- Promise 8

    private static void profile() {
        promise(8, "Turns a profile on or off.");
        for (int profile = 0; profile <= 7; profile++) {
            ComponentContainer c = with(SINGLETON);
            c.set(0, PROFILE, profile);
            c.profile(profile, true);
            CHECK.same("on", c.candidates(0, NONE), 1);
            c.profile(profile, true);
            CHECK.same("on twice", c.candidates(0, NONE), 1);
            c.profile(profile, false);
            CHECK.same("off", c.candidates(0, NONE), 0);
            c.profile(profile, false);
            CHECK.same("off twice", c.candidates(0, NONE), 0);
        }
        promise(8, "`profile`: 0 to 7");
        ComponentContainer c = new ComponentContainer();
        CHECK.throwsNothing("profile 0", () -> c.profile(0, true));
        CHECK.throwsNothing("profile 7", () -> c.profile(7, true));
        for (int profile = 1; profile <= 6; profile++) {
            CHECK.same("the others are off", c.profile(profile, false), false);
        }
        promise(8, "Returns whether it was on before.");
        for (int profile = 0; profile <= 7; profile++) {
            CHECK.same("first", c.profile(profile, true), profile == 0 || profile == 7);
            CHECK.same("on", c.profile(profile, true), true);
            CHECK.same("on, turned off", c.profile(profile, false), true);
            CHECK.same("off", c.profile(profile, false), false);
            CHECK.same("off, turned on", c.profile(profile, true), false);
        }
        promise(8, "Throws `IllegalArgumentException` if profile is out of range");
        refusesOutside("turned on: profile", 0, 7, profile -> c.profile(profile, true));
        refusesOutside("turned off: profile", 0, 7, profile -> c.profile(profile, false));
        for (int profile = 0; profile <= 7; profile++) {
            CHECK.same("it is as it was", c.profile(profile, true), true);
        }
    }

    // ---- Promise 9

    private static void components() {
        promise(9, "Returns the number of components.");
        ComponentContainer c = new ComponentContainer();
        for (int component = 0; component <= 20; component++) {
            CHECK.same("components()", c.components(), component);
            CHECK.badArgument("a refused one", () -> c.add(1, 3));
            CHECK.same("components() as it was", c.components(), component);
            if (component < 20) {
                c.add(1, SINGLETON);
            }
        }
        CHECK.badState("the 21st", () -> c.add(1, SINGLETON));
        CHECK.same("components() when full", c.components(), 20);
    }
}
