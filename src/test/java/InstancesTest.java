/** Promises 14 to 19: resolve, provide, start, begin, end and close, and how they fail. */
public final class InstancesTest {
    private static final int SINGLETON = ComponentContainer.SINGLETON;
    private static final int PROTOTYPE = ComponentContainer.PROTOTYPE;
    private static final int SCOPED = ComponentContainer.SCOPED;
    private static final int REQUIRED = ComponentContainer.REQUIRED;
    private static final int OPTIONAL = ComponentContainer.OPTIONAL;
    private static final int ALL = ComponentContainer.ALL;
    private static final int LATER = ComponentContainer.LATER;
    private static final Check CHECK = new Check("InstancesTest");

    public static void main(String[] args) {
        scopesOfComponents();
        changedScope();
        modes();
        optionalFails();
        choiceFails();
        cycleFails();
        noScopeFails();
        brokenFails();
        limitFails();
        prototypesOfFailedCall();
        provide();
        provideNoInstance();
        start();
        startFails();
        scopes();
        close();
        CHECK.finish();
    }

    private static ComponentContainer with(int... scopes) {
        ComponentContainer c = new ComponentContainer();
        for (int i = 0; i < scopes.length; i++) {
            c.add(1 << i, scopes[i]);
        }
        return c;
    }

    // Promise 14
    private static void scopesOfComponents() {
        ComponentContainer c = with(SINGLETON, PROTOTYPE, SCOPED);
        c.begin();
        CHECK.same("singleton", c.resolve(0, -1), 0);
        CHECK.same("the same singleton", c.resolve(0, -1), 0);
        CHECK.same("prototype", c.resolve(1, -1), 1);
        CHECK.same("another prototype", c.resolve(1, -1), 2);
        CHECK.same("scoped", c.resolve(2, -1), 3);
        CHECK.same("the same scoped", c.resolve(2, -1), 3);
        c.begin();
        CHECK.same("the same singleton in another scope", c.resolve(0, -1), 0);
        CHECK.same("scoped in another scope", c.resolve(2, -1), 4);
        CHECK.events(c, "scopes of components", 0, 2, 4, 6, 8);
    }

    private static void changedScope() {
        ComponentContainer c = with(SINGLETON);
        c.resolve(0, -1);
        c.set(0, ComponentContainer.SCOPE, PROTOTYPE);
        CHECK.same("a prototype now", c.resolve(0, -1), 1);
        c.set(0, ComponentContainer.SCOPE, SCOPED);
        c.begin();
        CHECK.same("scoped now", c.resolve(0, -1), 2);
        c.set(0, ComponentContainer.SCOPE, SINGLETON);
        CHECK.same("the singleton of before", c.resolve(0, -1), 0);
        c.set(0, ComponentContainer.SCOPE, PROTOTYPE);
        CHECK.same("end() destroys the one of the scope", c.end(), 1);
        CHECK.same("the scoped one", c.isAlive(2), false);
        CHECK.same("close() destroys the one that was a singleton", c.close(), 1);
        CHECK.events(c, "changed scope", 0, 2, 4, 5, 1);
        CHECK.same("the prototype stays", c.isAlive(1), true);
        c.set(0, ComponentContainer.SCOPE, SINGLETON);
        CHECK.same("a new singleton", c.resolve(0, -1), 3);
    }

    private static void modes() {
        ComponentContainer c = with(SINGLETON, PROTOTYPE, PROTOTYPE, SINGLETON);
        c.set(2, ComponentContainer.TYPES, 6);
        c.set(3, ComponentContainer.TYPES, 2);
        c.set(3, ComponentContainer.PRIMARY, 1);
        c.depend(0, 1, -1, REQUIRED);
        c.depend(0, 2, -1, OPTIONAL);
        c.depend(0, 9, -1, OPTIONAL);
        c.depend(0, 1, -1, ALL);
        c.depend(0, 9, -1, ALL);
        c.depend(0, 1, -1, LATER);
        CHECK.same("resolve", c.resolve(0, -1), 4);
        int[] injected = {0, 1, -1, 3, 0, -1};
        for (int i = 0; i < injected.length; i++) {
            CHECK.same("injected " + i, c.injected(4, i), injected[i]);
        }
        int[] components = {3, 2, 1, 2, 0};
        for (int i = 0; i < components.length; i++) {
            CHECK.same("componentOf " + i, c.componentOf(i), components[i]);
        }
    }

    private static void optionalFails() {
        ComponentContainer c = with(PROTOTYPE, PROTOTYPE, PROTOTYPE);
        c.depend(0, 1, -1, OPTIONAL);
        c.depend(1, 7, -1, REQUIRED);
        CHECK.badState("OPTIONAL does not hide a failure", () -> c.resolve(0, -1));
        CHECK.failure(c, "below OPTIONAL", ComponentContainer.NO_CANDIDATE, 7, 0, 1);
        c.set(2, ComponentContainer.TYPES, 2);
        CHECK.badState("OPTIONAL and ambiguous", () -> c.resolve(0, -1));
        CHECK.failure(c, "OPTIONAL and ambiguous", ComponentContainer.AMBIGUOUS, 1, 0);
    }

    private static void choiceFails() {
        ComponentContainer c = with(SINGLETON, SINGLETON);
        CHECK.badState("no candidate", () -> c.resolve(15, -1));
        CHECK.failure(c, "no candidate", ComponentContainer.NO_CANDIDATE, 15);
        CHECK.badState("no such qualifier", () -> c.resolve(0, 9));
        CHECK.failure(c, "no such qualifier", ComponentContainer.NO_CANDIDATE, 0);
        c.set(1, ComponentContainer.TYPES, 3);
        CHECK.badState("ambiguous", () -> c.resolve(0, -1));
        CHECK.failure(c, "ambiguous", ComponentContainer.AMBIGUOUS, 0);
        c.set(1, ComponentContainer.QUALIFIER, 4);
        CHECK.same("by the qualifier", c.resolve(0, 4), 0);
        CHECK.failure(c, "the failure stays", ComponentContainer.AMBIGUOUS, 0);
    }

    private static void cycleFails() {
        ComponentContainer c = with(PROTOTYPE, SINGLETON, PROTOTYPE);
        c.depend(0, 1, -1, REQUIRED);
        c.depend(1, 2, -1, REQUIRED);
        c.depend(2, 1, -1, ALL);
        CHECK.badState("cycle", () -> c.resolve(0, -1));
        CHECK.failure(c, "cycle", ComponentContainer.CYCLE, 1, 0, 1, 2);
        c.clear(2);
        c.depend(2, 2, -1, REQUIRED);
        CHECK.badState("itself", () -> c.resolve(2, -1));
        CHECK.failure(c, "itself", ComponentContainer.CYCLE, 2, 2);
        CHECK.same("nothing was completed", c.instances() + c.event(-1), 0);
        c.clear(2);
        c.resolve(1, -1);
        c.depend(2, 1, -1, REQUIRED);
        CHECK.same("an existing singleton is no cycle", c.resolve(2, -1), 2);
    }

    private static void noScopeFails() {
        ComponentContainer c = with(SINGLETON, SCOPED);
        c.depend(0, 1, -1, REQUIRED);
        CHECK.badState("no scope", () -> c.resolve(1, -1));
        CHECK.failure(c, "no scope", ComponentContainer.NO_SCOPE, 1);
        CHECK.badState("no scope below", () -> c.resolve(0, -1));
        CHECK.failure(c, "no scope below", ComponentContainer.NO_SCOPE, 1, 0);
        c.begin();
        CHECK.same("a scope", c.resolve(0, -1), 1);
        c.end();
        CHECK.same("the singleton stays", c.resolve(0, -1), 1);
        CHECK.badState("no scope again", () -> c.resolve(1, -1));
        c.clear(1);
        c.begin();
        c.depend(1, 1, -1, OPTIONAL);
        CHECK.badState("scoped cycle", () -> c.resolve(1, -1));
        CHECK.failure(c, "scoped cycle", ComponentContainer.CYCLE, 1, 1);
    }

    private static void brokenFails() {
        ComponentContainer c = with(PROTOTYPE, SINGLETON);
        c.depend(0, 1, -1, REQUIRED);
        c.set(0, ComponentContainer.FAIL_AT, 2);
        CHECK.same("first", c.resolve(0, -1), 1);
        CHECK.same("second", c.resolve(0, -1), 2);
        CHECK.badState("third", () -> c.resolve(0, -1));
        CHECK.failure(c, "third", ComponentContainer.BROKEN, 0, 0);
        c.set(0, ComponentContainer.FAIL_AT, 3);
        CHECK.same("third now", c.resolve(0, -1), 3);
        CHECK.badState("fourth", () -> c.resolve(0, -1));
        c.set(0, ComponentContainer.FAIL_AT, -1);
        CHECK.same("fourth now", c.resolve(0, -1), 4);
        c.close();
        c.set(1, ComponentContainer.FAIL_AT, 1);
        CHECK.badState("destroyed ones count", () -> c.resolve(0, -1));
        CHECK.failure(c, "destroyed ones count", ComponentContainer.BROKEN, 1, 0, 1);
        c.set(1, ComponentContainer.FAIL_AT, 0);
        CHECK.badState("FAIL_AT 0", () -> c.resolve(1, -1));
        CHECK.failure(c, "FAIL_AT 0", ComponentContainer.BROKEN, 1, 1);
    }

    private static void limitFails() {
        ComponentContainer c = with(PROTOTYPE, SINGLETON, SINGLETON);
        for (int i = 0; i < 299; i++) {
            c.resolve(0, -1);
        }
        CHECK.same("the last one", c.resolve(1, -1), 299);
        CHECK.same("an existing one", c.resolve(1, -1), 299);
        CHECK.badState("one too many", () -> c.resolve(0, -1));
        CHECK.failure(c, "one too many", ComponentContainer.LIMIT, 0, 0);
        c.set(2, ComponentContainer.FAIL_AT, 0);
        c.depend(2, 0, -1, REQUIRED);
        CHECK.badState("the dependency first", () -> c.resolve(2, -1));
        CHECK.failure(c, "the dependency first", ComponentContainer.LIMIT, 0, 2, 0);
        c.clear(2);
        c.depend(2, 1, -1, REQUIRED);
        CHECK.badState("LIMIT before BROKEN", () -> c.resolve(2, -1));
        CHECK.failure(c, "LIMIT before BROKEN", ComponentContainer.LIMIT, 2, 2);
        CHECK.same("close()", c.close(), 1);
        CHECK.badState("destroyed ones count", () -> c.resolve(1, -1));
        CHECK.failure(c, "destroyed ones count", ComponentContainer.LIMIT, 1, 1);
        CHECK.same("instances()", c.instances(), 300);
        CHECK.same("event(-1)", c.event(-1), 301);
        CHECK.same("event(300)", c.event(300), 599);
    }

    private static void prototypesOfFailedCall() {
        ComponentContainer c = with(PROTOTYPE, PROTOTYPE, SINGLETON, SCOPED, PROTOTYPE);
        c.begin();
        CHECK.same("a prototype of before", c.resolve(1, -1), 0);
        c.depend(0, 1, -1, REQUIRED);
        c.depend(0, 2, -1, REQUIRED);
        c.depend(0, 3, -1, REQUIRED);
        c.depend(0, 4, -1, REQUIRED);
        c.depend(0, 9, -1, REQUIRED);
        CHECK.badState("resolve", () -> c.resolve(0, -1));
        CHECK.failure(c, "prototypes of a failed call", ComponentContainer.NO_CANDIDATE, 9, 0);
        CHECK.events(c, "prototypes of a failed call", 0, 2, 4, 6, 8, 9, 3);
        CHECK.same("the one of before", c.isAlive(0), true);
        CHECK.same("the singleton stays", c.resolve(2, -1), 2);
        CHECK.same("the scoped one stays", c.resolve(3, -1), 3);
        CHECK.same("end()", c.end(), 1);
        CHECK.same("close()", c.close(), 1);
    }

    // Promise 15
    private static void provide() {
        ComponentContainer c = with(SINGLETON, PROTOTYPE, SCOPED);
        c.depend(0, 1, -1, LATER);
        c.depend(0, 1, -1, REQUIRED);
        CHECK.same("resolve", c.resolve(0, -1), 1);
        CHECK.same("provide(1, 0)", c.provide(1, 0), 2);
        CHECK.same("its component", c.componentOf(2), 1);
        for (int index : new int[] {1, 2, -1, 6, Integer.MIN_VALUE, Integer.MAX_VALUE}) {
            CHECK.badArgument("provide(1, " + index + ")", () -> c.provide(1, index));
        }
        c.clear(0);
        c.depend(0, 0, 3, LATER);
        CHECK.badState("with the qualifier", () -> c.provide(1, 0));
        CHECK.failure(c, "with the qualifier", ComponentContainer.NO_CANDIDATE, 0);
        c.set(0, ComponentContainer.QUALIFIER, 3);
        CHECK.same("itself", c.provide(1, 0), 1);
        c.depend(0, 2, -1, LATER);
        CHECK.badState("scoped", () -> c.provide(1, 1));
        CHECK.failure(c, "scoped", ComponentContainer.NO_SCOPE, 2);
        c.begin();
        c.depend(2, 1, -1, REQUIRED);
        c.depend(2, 15, -1, REQUIRED);
        CHECK.badState("prototypes of a failed call", () -> c.provide(1, 1));
        CHECK.failure(c, "provide", ComponentContainer.NO_CANDIDATE, 15, 2);
        CHECK.events(c, "provide", 0, 2, 4, 6, 7);
    }

    private static void provideNoInstance() {
        ComponentContainer c = with(SINGLETON, PROTOTYPE);
        c.depend(0, 1, -1, LATER);
        c.resolve(0, -1);
        for (int instance : new int[] {-1, 1, 300, Integer.MIN_VALUE, Integer.MAX_VALUE}) {
            CHECK.outOfBounds("provide(" + instance + ", 9)", () -> c.provide(instance, 9));
        }
        c.close();
        CHECK.badState("not alive", () -> c.provide(0, 0));
        CHECK.failure(c, "nothing is recorded", 0, -1);
        CHECK.badArgument("the argument comes first", () -> c.provide(0, 1));
        CHECK.same("nothing is completed", c.instances(), 1);
    }

    // Promise 16
    private static void start() {
        ComponentContainer c = with(SINGLETON, PROTOTYPE, SCOPED, SINGLETON, SINGLETON, SINGLETON);
        c.set(3, ComponentContainer.LAZY, 1);
        c.set(4, ComponentContainer.PROFILE, 2);
        c.depend(5, 1, -1, REQUIRED);
        CHECK.same("start()", c.start(), 3);
        CHECK.same("the first", c.componentOf(0), 0);
        CHECK.same("the prototype", c.componentOf(1), 1);
        CHECK.same("the last", c.componentOf(2), 5);
        CHECK.same("it stays", c.isAlive(1), true);
        CHECK.same("start() again", c.start(), 0);
        c.profile(2, true);
        CHECK.same("with the profile", c.start(), 1);
        c.set(3, ComponentContainer.LAZY, 0);
        CHECK.same("no more lazy", c.start(), 1);
        CHECK.same("close()", c.close(), 4);
        CHECK.same("after close()", c.start(), 5);
    }

    private static void startFails() {
        ComponentContainer c = with(PROTOTYPE, SINGLETON, SINGLETON, SINGLETON);
        c.depend(1, 0, -1, REQUIRED);
        c.depend(2, 0, -1, REQUIRED);
        c.set(2, ComponentContainer.FAIL_AT, 0);
        CHECK.badState("start()", () -> c.start());
        CHECK.failure(c, "start()", ComponentContainer.BROKEN, 2, 2);
        CHECK.events(c, "start()", 0, 2, 4, 5, 1);
        CHECK.same("the singleton stays", c.isAlive(1), true);
        CHECK.same("none of the later ones", c.instances(), 3);
        c.set(2, ComponentContainer.FAIL_AT, -1);
        CHECK.same("start() now", c.start(), 3);
    }

    // Promises 17 and 18
    private static void scopes() {
        ComponentContainer c = with(SCOPED, SCOPED, SINGLETON, PROTOTYPE);
        CHECK.badState("end() without a scope", () -> c.end());
        for (int i = 1; i <= 5; i++) {
            CHECK.same("begin()", c.begin(), i);
            c.resolve(i % 2, -1);
        }
        CHECK.badState("a sixth", () -> c.begin());
        c.resolve(2, -1);
        c.resolve(3, -1);
        c.resolve(0, -1);
        CHECK.same("end() of the fifth", c.end(), 2);
        CHECK.same("end() of the fourth", c.end(), 1);
        CHECK.same("the third's own", c.resolve(1, -1), 2);
        CHECK.same("a new one of the third", c.resolve(0, -1), 8);
        CHECK.same("end() of the third", c.end(), 2);
        CHECK.same("begin() again", c.begin(), 3);
        CHECK.same("empty at first", c.resolve(1, -1), 9);
        CHECK.same("end()", c.end(), 1);
        CHECK.same("end() of the second", c.end(), 1);
        CHECK.same("end() of the first", c.end(), 1);
        CHECK.badState("one end() too many", () -> c.end());
        CHECK.failure(c, "nothing is recorded", 0, -1);
        CHECK.events(c, "scopes", 0, 2, 4, 6, 8, 10, 12, 14, 15, 9, 7, 16, 17, 5, 18, 19, 3, 1);
        CHECK.same("the singleton stays", c.isAlive(5), true);
        CHECK.same("the prototype stays", c.isAlive(6), true);
    }

    // Promise 19
    private static void close() {
        ComponentContainer c = with(SINGLETON, SCOPED, PROTOTYPE, SINGLETON);
        c.resolve(0, -1);
        c.begin();
        c.resolve(1, -1);
        c.resolve(2, -1);
        c.begin();
        c.resolve(1, -1);
        c.resolve(3, -1);
        CHECK.same("close()", c.close(), 4);
        CHECK.events(c, "close()", 0, 2, 4, 6, 8, 7, 3, 9, 1);
        CHECK.same("close() again", c.close(), 0);
        CHECK.badState("no scope is open", () -> c.end());
        CHECK.same("the prototype stays", c.isAlive(2), true);
        CHECK.same("components stay", c.components(), 4);
        CHECK.same("a new singleton", c.resolve(0, -1), 5);
        CHECK.same("begin()", c.begin(), 1);
        CHECK.same("a new scoped one", c.resolve(1, -1), 6);
    }
}
