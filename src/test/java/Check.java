import java.util.LinkedHashMap;
import java.util.Map;

/** Counts and prints the answers that are not the ones due; shared by the tests. */
final class Check {
    private final String test;
    private int checked = 0;
    private int wrong = 0;

    // The sentence of the document that is held now, and how many answers each one was held by.
    private String sentence = "";
    private final Map<String, Integer> answersBySentence = new LinkedHashMap<>();

    Check(String test) {
        this.test = test;
    }

    /** The answers that follow hold this sentence; its place is the heading in the document. */
    void sentence(String place, String words) {
        sentence = place + ": " + words;
        answersBySentence.putIfAbsent(sentence, 0);
    }

    void noSentence() {
        sentence = "";
    }

    Map<String, Integer> answersBySentence() {
        return answersBySentence;
    }

    void same(String what, long got, long due) {
        note(what, got == due, String.valueOf(got), String.valueOf(due));
    }

    void same(String what, boolean got, boolean due) {
        note(what, got == due, String.valueOf(got), String.valueOf(due));
    }

    void same(String what, String got, String due) {
        note(what, got.equals(due), got, due);
    }

    void outOfBounds(String what, Runnable call) {
        throwsExactly(what, IndexOutOfBoundsException.class, call);
    }

    void badArgument(String what, Runnable call) {
        throwsExactly(what, IllegalArgumentException.class, call);
    }

    void badState(String what, Runnable call) {
        throwsExactly(what, IllegalStateException.class, call);
    }

    void throwsNothing(String what, Runnable call) {
        throwsExactly(what, null, call);
    }

    private void throwsExactly(String what, Class<?> due, Runnable call) {
        Class<?> got = null;
        try {
            call.run();
        } catch (RuntimeException e) {
            got = e.getClass();
        }
        note(what, got == due, nameOf(got), nameOf(due));
    }

    private static String nameOf(Class<?> thrown) {
        return thrown == null ? "no exception" : thrown.getName();
    }

    private void note(String what, boolean right, String got, String due) {
        checked++;
        if (!sentence.isEmpty()) {
            answersBySentence.merge(sentence, 1, Integer::sum);
        }
        if (!right) {
            wrong++;
            String held = sentence.isEmpty() ? "" : " (" + sentence + ")";
            System.out.println(test + ": " + what + " answered " + got + ", due is " + due + held);
        }
    }

    void failure(ComponentContainer c, String what, int kind, int detail, int... chain) {
        same(what + ": failureKind()", c.failureKind(), kind);
        same(what + ": failureDetail()", c.failureDetail(), detail);
        same(what + ": failureChain(-1)", c.failureChain(-1), chain.length);
        for (int i = 0; i < chain.length; i++) {
            same(what + ": failureChain(" + i + ")", c.failureChain(i), chain[i]);
        }
        same(what + ": failureChain(past the end)", c.failureChain(chain.length), -1);
    }

    void events(ComponentContainer c, String what, int... codes) {
        same(what + ": event(-1)", c.event(-1), codes.length);
        for (int i = 0; i < codes.length; i++) {
            same(what + ": event(" + i + ")", c.event(i), codes[i]);
        }
        same(what + ": event(past the end)", c.event(codes.length), -1);
    }

    void finish() {
        System.out.println(test + ": " + checked + " answers checked, " + wrong + " wrong");
        if (wrong != 0) {
            System.exit(1);
        }
    }
}
