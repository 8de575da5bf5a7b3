import java.util.NoSuchElementException;

/** What the tests share: comparing answers, feeding texts. */
final class Check {
    static final long THROWS = Long.MIN_VALUE;

    private static int asked = 0;
    private static int wrong = 0;
    private static String about = "";

    private Check() {
    }

    /** What all that is asked from here on is about: it is told with every wrong answer. */
    static void about(String sentence) {
        about = sentence + ": ";
    }

    static int asked() {
        return asked;
    }

    static void due(String what, long got, long want) {
        asked++;
        if (got != want) {
            wrong++;
            System.out.println(about + what + " answered " + got + ", due is " + want);
        }
    }

    static void due(String what, boolean got, boolean want) {
        due(what, got ? 1 : 0, want ? 1 : 0);
    }

    static void end() {
        System.out.println(asked + " answers, " + wrong + " not as due");
        if (wrong != 0 || asked == 0) {
            System.exit(1);
        }
    }

    static boolean anyWrong() {
        return wrong != 0;
    }

    static long[] words(String text, int from) {
        long[] words = new long[3];
        for (int i = 0; i < 24; i++) {
            int sign = from + i < text.length() ? text.charAt(from + i) : 0;
            words[i / 8] = words[i / 8] << 8 | sign;
        }
        return words;
    }

    static void feed(MustardPast x, String text) {
        for (int from = 0; from < text.length(); from += 24) {
            long[] w = words(text, from);
            x.feed(w[0], w[1], w[2]);
        }
    }

    static int past(MustardPast x, String text) {
        feed(x, text);
        return x.past();
    }

    static int round(MustardPast x, String text) {
        feed(x, text);
        return x.round();
    }

    static MustardPast told(String text) {
        MustardPast x = new MustardPast();
        due("past of " + text, past(x, text), 0);
        return x;
    }

    static long rests(MustardPast x, int both, int loses, int gets, int what) {
        try {
            return x.rests(both, loses, gets, what);
        } catch (NoSuchElementException e) {
            return THROWS;
        }
    }
}
