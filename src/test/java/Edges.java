import java.util.function.IntConsumer;

/**
 * What the edge tests share. Each of their functions names the promise and quotes the sentence of the
 * document that it holds; EdgesTest compares the quotes with the document.
 */
abstract class Edges {
    static final int LEAST = Integer.MIN_VALUE;
    static final int MOST = Integer.MAX_VALUE;

    static final int TYPES = ComponentContainer.TYPES;
    static final int SCOPE = ComponentContainer.SCOPE;
    static final int QUALIFIER = ComponentContainer.QUALIFIER;
    static final int PRIMARY = ComponentContainer.PRIMARY;
    static final int LAZY = ComponentContainer.LAZY;
    static final int PROFILE = ComponentContainer.PROFILE;
    static final int FAIL_AT = ComponentContainer.FAIL_AT;

    static final int SINGLETON = ComponentContainer.SINGLETON;
    static final int PROTOTYPE = ComponentContainer.PROTOTYPE;
    static final int SCOPED = ComponentContainer.SCOPED;

    static final int REQUIRED = ComponentContainer.REQUIRED;
    static final int OPTIONAL = ComponentContainer.OPTIONAL;
    static final int ALL = ComponentContainer.ALL;
    static final int LATER = ComponentContainer.LATER;

    static final int NO_CANDIDATE = ComponentContainer.NO_CANDIDATE;
    static final int AMBIGUOUS = ComponentContainer.AMBIGUOUS;
    static final int CYCLE = ComponentContainer.CYCLE;
    static final int NO_SCOPE = ComponentContainer.NO_SCOPE;
    static final int LIMIT = ComponentContainer.LIMIT;
    static final int BROKEN = ComponentContainer.BROKEN;

    static final int NONE = ComponentContainer.NONE;

    static final Check CHECK = new Check("EdgesTest");

    // A type that no component of with(), twenty() and holding() provides.
    static final int NOBODYS_TYPE = 13;

    // The types of the components that holding() adds to make instances.
    private static final int ONE_INSTANCE = 14;
    private static final int SEVEN_INSTANCES = 15;

    static void description(String words) {
        CHECK.sentence("Description", words);
    }

    static void promise(int number, String words) {
        CHECK.sentence("Promise " + number, words);
    }

    /** A container whose component i provides the type i and has the i-th of these scopes. */
    static ComponentContainer with(int... scopes) {
        ComponentContainer c = new ComponentContainer();
        for (int i = 0; i < scopes.length; i++) {
            c.add(1 << i, scopes[i]);
        }
        return c;
    }

    /** A container with as many components as there can be, all of the type 0. */
    static ComponentContainer twenty(int scope) {
        ComponentContainer c = new ComponentContainer();
        for (int i = 0; i < 20; i++) {
            c.add(1, scope);
        }
        return c;
    }

    /** 20 components, each REQUIRED by the one before: component i has type i / 10 and qualifier i % 10. */
    static ComponentContainer chainOfTwenty(int scope) {
        ComponentContainer c = new ComponentContainer();
        for (int i = 0; i < 20; i++) {
            c.add(1 << i / 10, scope);
            c.set(i, QUALIFIER, i % 10);
        }
        for (int i = 1; i < 20; i++) {
            c.depend(i - 1, i / 10, i % 10, REQUIRED);
        }
        return c;
    }

    /** Like with(), but so many instances (of two more PROTOTYPE components) have been completed. */
    static ComponentContainer holding(int instances, int... scopes) {
        ComponentContainer c = with(scopes);
        c.add(1 << ONE_INSTANCE, PROTOTYPE);
        int seven = c.add(1 << SEVEN_INSTANCES, PROTOTYPE);
        for (int i = 0; i < 6; i++) {
            c.depend(seven, ONE_INSTANCE, NONE, REQUIRED);
        }
        for (int i = 0; i < instances / 7; i++) {
            c.resolve(SEVEN_INSTANCES, NONE);
        }
        for (int i = 0; i < instances % 7; i++) {
            c.resolve(ONE_INSTANCE, NONE);
        }
        return c;
    }

    static void need(ComponentContainer c, int component, int type, int mode) {
        c.depend(component, type, NONE, mode);
    }

    static void resolveFails(ComponentContainer c, String what, int type) {
        CHECK.badState(what + ": resolve(" + type + ", -1)", () -> c.resolve(type, NONE));
    }

    /** The nearest values outside of a range, and the farthest ones. */
    static int[] outside(int lowest, int highest) {
        return new int[] {lowest - 1, highest + 1, LEAST, MOST};
    }

    /** The call refuses each value outside of the range as a bad argument. */
    static void refusesOutside(String what, int lowest, int highest, IntConsumer call) {
        for (int value : outside(lowest, highest)) {
            CHECK.badArgument(what + " " + value, () -> call.accept(value));
        }
    }

    /** The call refuses each number that nothing has while there are so many things. */
    static void findsNothingOutside(String what, int count, IntConsumer call) {
        for (int value : outside(0, count - 1)) {
            CHECK.outOfBounds(what + " " + value + " of " + count, () -> call.accept(value));
        }
    }

    /** For 0, 1 and 20 components: the call refuses each number that no component has. */
    static void refusesNoComponent(String what, ComponentCall call) {
        findsNothingOutside(what, 0, component -> call.of(new ComponentContainer(), component));
        findsNothingOutside(what, 1, component -> call.of(with(SINGLETON), component));
        findsNothingOutside(what, 20, component -> call.of(twenty(SINGLETON), component));
        CHECK.throwsNothing(what + " 0 of 1", () -> call.of(with(SINGLETON), 0));
        CHECK.throwsNothing(what + " 19 of 20", () -> call.of(twenty(SINGLETON), 19));
    }

    /** For 0, 1 and 300 instances: the call refuses each number that no instance has. */
    static void refusesNoInstance(String what, ComponentCall call) {
        findsNothingOutside(what, 0, instance -> call.of(with(SINGLETON), instance));
        findsNothingOutside(what, 1, instance -> call.of(holding(1), instance));
        findsNothingOutside(what, 300, instance -> call.of(holding(300), instance));
        CHECK.throwsNothing(what + " 0 of 300", () -> call.of(holding(300), 0));
        CHECK.throwsNothing(what + " 299 of 300", () -> call.of(holding(300), 299));
    }

    /** A call that takes the number of a component, or of an instance. */
    interface ComponentCall {
        void of(ComponentContainer c, int number);
    }
}
