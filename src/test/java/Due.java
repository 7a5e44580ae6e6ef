import java.util.function.IntToLongFunction;

/** Counts and prints the answers that are not as due, each under the sentence of the document that it is about. */
final class Due {
    private static String sentence = "";
    private static int wrong = 0;
    private static int looked = 0;
    private static int lookedBefore = 0;

    private Due() {
    }

    /** From here on the answers are about this sentence of this part of the document. */
    static void sentence(String part, String quote) {
        endSentence();
        sentence = part + ", \"" + quote + "\": ";
    }

    static void is(String what, long got, long want) {
        looked++;
        if (got != want) {
            wrong++;
            System.out.println(sentence + what + ": answered " + got + ", due is " + want);
        }
    }

    static void is(String what, boolean got, boolean want) {
        is(what, bit(got), bit(want));
    }

    static void is(String what, String got, String want) {
        is(what + ", was " + want + ", is " + got, got.equals(want), true);
    }

    /** A call that takes numbers from least to most gives this answer to all others. */
    static void refuses(String name, long answer, int least, int most, IntToLongFunction call) {
        is(name + " one below", call.applyAsLong(least - 1), answer);
        is(name + " one above", call.applyAsLong(most + 1), answer);
        is(name + " far below", call.applyAsLong(Integer.MIN_VALUE), answer);
        is(name + " far above", call.applyAsLong(Integer.MAX_VALUE), answer);
    }

    static long bit(boolean answer) {
        return answer ? 1 : 0;
    }

    /** For a sentence that only an object with known insides can be held to. */
    static void notLookedAt(String why) {
        looked++;
        System.out.println(sentence + "not looked at: " + why);
    }

    static void end() {
        endSentence();
        System.out.println(wrong == 0 ? looked + " answers are as due" : wrong + " answers are not as due");
        if (wrong != 0) {
            System.exit(1);
        }
    }

    private static void endSentence() {
        if (!sentence.isEmpty() && looked == lookedBefore) {
            wrong++;
            System.out.println(sentence + "no answer was looked at");
        }
        lookedBefore = looked;
    }
}
