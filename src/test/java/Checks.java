import java.util.function.BooleanSupplier;
import java.util.function.LongSupplier;

/** What the tests share: loading of texts, comparing of answers, and the count of the wrong ones. */
final class Checks {
    private static final int STEP = 20;
    private static int checked = 0;
    private static int wrong = 0;
    private static String about = "";

    private Checks() {
    }

    /** What the next answers are about; it stands before each wrong one. */
    static void about(String words) {
        about = words;
    }

    static int lookedAt() {
        return checked;
    }

    static void due(String what, long got, long want) {
        checked++;
        if (got != want) {
            wrong++;
            System.out.println(about + what + ": answered " + got + ", due is " + want);
        }
    }

    static void holds(String what, boolean got) {
        due(what, got ? 1 : 0, 1);
    }

    static void dueText(String what, String got, String want) {
        checked++;
        if (!got.equals(want)) {
            wrong++;
            System.out.println(about + what + ": answered " + got + ", due is " + want);
        }
    }

    /** The answer of a call as a text; an exception is told by the name of its class. */
    static String answer(LongSupplier call) {
        try {
            return Long.toString(call.getAsLong());
        } catch (RuntimeException e) {
            return "throws." + e.getClass().getSimpleName();
        }
    }

    static void throwsIndex(String what, LongSupplier call) {
        dueText(what, answer(call), "throws.IndexOutOfBoundsException");
    }

    static void throwsArgument(String what, LongSupplier call) {
        dueText(what, answer(call), "throws.IllegalArgumentException");
    }

    static void throwsState(String what, LongSupplier call) {
        dueText(what, answer(call), "throws.IllegalStateException");
    }

    static long bit(BooleanSupplier call) {
        return call.getAsBoolean() ? 1 : 0;
    }

    /** Appends the text, padded with spaces; returns what the last append answered. */
    static int append(SupplyContract x, String text) {
        int answer = -1;
        for (int from = 0; from < text.length(); from += STEP) {
            answer = x.append(word(text, from), word(text, from + 4), word(text, from + 8),
                    word(text, from + 12), word(text, from + 16));
        }
        return answer;
    }

    static int word(String text, int from) {
        int word = 0;
        for (int k = from; k < from + 4; k++) {
            word = word << 8 | (k < text.length() ? text.charAt(k) & 255 : ' ');
        }
        return word;
    }

    static int load(SupplyContract x, String text) {
        append(x, text);
        return x.load(text.length());
    }

    static SupplyContract contract(String text) {
        SupplyContract x = new SupplyContract();
        holds("load of " + text, load(x, text) > 0);
        return x;
    }

    static void end(String test) {
        System.out.println(test + ": " + checked + " answers looked at, " + wrong + " wrong");
        if (wrong != 0) {
            System.exit(1);
        }
    }
}
