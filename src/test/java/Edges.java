import java.lang.reflect.InvocationTargetException;
import java.lang.reflect.Method;
import java.util.Arrays;
import java.util.Comparator;

/** Runs the tests of single sentences, and what these share. */
final class Edges {
    /** Numbers that are no matter, whatever is told: the last ones would be one again if only their low bits were looked at. */
    static final int[] NO_MATTERS = {-1, -2, 7, 8, 31, 32, 33, 64, 256, Integer.MIN_VALUE, Integer.MAX_VALUE};

    private Edges() {
    }

    static void run(Class<?> type) {
        Method[] methods = type.getDeclaredMethods();
        Arrays.sort(methods, Comparator.comparing(Method::getName));
        for (Method m : methods) {
            Says says = m.getAnnotation(Says.class);
            if (says != null) {
                Check.about(says.value());
                int before = Check.asked();
                call(m);
                Check.due(m.getName() + " asks something", Check.asked() > before, true);
            }
        }
        Check.end();
    }

    private static void call(Method m) {
        try {
            m.setAccessible(true);
            m.invoke(null);
        } catch (InvocationTargetException e) {
            Check.due(m.getName() + " threw " + e.getCause(), true, false);
        } catch (IllegalAccessException e) {
            Check.due(m.getName() + " can't be called", true, false);
        }
    }

    /** A PAST without a fault. */
    static void fine(String text) {
        MustardPast x = new MustardPast();
        Check.due("past of " + text, Check.past(x, text), 0);
    }

    /** The ^ stands ahead of the wrong token and is no part of the text. */
    static void fault(int kind, String text) {
        MustardPast x = new MustardPast();
        Check.due("past of " + text, Check.past(x, text.replace("^", "")), kind + 16 * text.indexOf('^'));
    }

    static void roundFault(int kind, String past, String text) {
        MustardPast x = Check.told(past);
        Check.due("round of " + text, Check.round(x, text.replace("^", "")), kind + 16 * text.indexOf('^'));
    }

    static MustardPast rounded(String past, String round) {
        MustardPast x = Check.told(past);
        Check.due("round of " + round, Check.round(x, round), 0);
        return x;
    }

    static MustardPast spread(MustardPast x, int... matters) {
        for (int m : matters) {
            Check.due("spread " + m + " can be", x.spread(m) >= 0, true);
        }
        return x;
    }

    static MustardPast passed(MustardPast x, int years) {
        for (int i = 0; i < years; i++) {
            x.year();
        }
        return x;
    }

    /** So many plain matters a, b, c .. of the years 0, 1, 2 .., each 1 sour. */
    static String matters(int n) {
        StringBuilder s = new StringBuilder();
        for (int i = 0; i < n; i++) {
            s.append("matter ").append((char) ('a' + i)).append(" plain in ").append(i).append(" sour 1;");
        }
        return s.toString();
    }

    /** Each of these led to the next one. */
    static String chain(int n) {
        StringBuilder s = new StringBuilder(matters(n));
        for (int i = 0; i + 1 < n; i++) {
            s.append("led ").append((char) ('a' + i)).append(' ').append((char) ('b' + i)).append(';');
        }
        return s.toString();
    }

    /** All that can be seen of how it is, by 64 calls at most. */
    static String everything(MustardPast x) {
        StringBuilder s = new StringBuilder();
        for (int what = 0; what <= 10; what++) {
            s.append(x.count(what)).append(' ');
        }
        for (int m = 0; m < x.count(0); m++) {
            for (int what = 0; what <= 6; what++) {
                s.append(x.matter(m, what)).append(' ');
            }
        }
        for (int what = 0; what <= 2; what++) {
            s.append(x.judged(what)).append(' ');
        }
        return s.append(x.who()).toString();
    }

    static void same(String what, String before, MustardPast x) {
        String now = everything(x);
        Check.due(what + ": all stays: " + before + " | " + now, now.equals(before), true);
    }
}
