import java.util.NoSuchElementException;
import java.util.Random;

/** Odd runs of calls, the same ones every time, answered by the class and by PlainModel alike. */
public final class ModelTest {
    private static final int RUNS = 1500;
    private static final String[] NAMES = {"a", "b", "ems", "left", "thick", "zzzzzzzz", "winterz", "y", "age", "x"};
    private static final String[] KINDS = {"plain", "battle", "wedding", "winter"};
    private static final String[] FACTS = {"left", "coats", "age", "thick"};
    private static final String[] SCRAPS = {";", "(", ")", "not ", "and ", "or ", "<", "=", "+", "-", "*", " ", "\n", "5", "99999",
        "matter ", "led ", "takes ", "pot ", "abcdefghi", ">", "a", "year;", "", "0", "in", "A"};

    private final Random odd;
    private final MustardPast x = new MustardPast();
    private final PlainModel y = new PlainModel();
    private final int run;

    private ModelTest(int run) {
        this.run = run;
        odd = new Random(run);
    }

    public static void main(String[] args) {
        for (int run = 0; run < RUNS && !Check.anyWrong(); run++) {
            new ModelTest(run).go();
        }
        Check.end();
    }

    private int below(int n) {
        return odd.nextInt(n);
    }

    private boolean one(int in) {
        return below(in) == 0;
    }

    private void go() {
        int calls = 0;
        if (!one(20)) {
            feed(pastText());
            both("past()", x.past(), y.past());
        }
        for (; calls < 150 && !Check.anyWrong(); calls++) {
            if (one(25)) {
                feed(one(4) ? spoilt(roundText()) : roundText());
                both("round()", x.round(), y.round());
            } else if (one(60)) {
                feed(one(2) ? spoilt(pastText()) : pastText());
                both("past()", x.past(), y.past());
            } else if (one(2)) {
                change();
            } else {
                ask();
            }
        }
    }

    private void both(String call, long got, long want) {
        Check.due(got == want ? "" : "run " + run + ": " + call + " [" + y + "]", got, want);
    }

    private void feed(String text) {
        for (int from = 0; from < text.length(); from += 24) {
            long[] w = Check.words(text, from);
            both("feed " + text, x.feed(w[0], w[1], w[2]), y.feed(w[0], w[1], w[2]));
        }
    }

    private String blank() {
        return one(6) ? "\n " : " ";
    }

    private String pastText() {
        StringBuilder s = new StringBuilder();
        int n = one(12) ? below(10) : 3 + below(5);
        int shift = below(NAMES.length);
        int[] born = new int[n];
        for (int i = 0; i < n; i++) {
            born[i] = one(60) ? 100 : one(4) ? below(5) : below(100);
            s.append("matter" + blank() + NAMES[(i + shift) % NAMES.length] + " " + KINDS[below(4)] + " in" + blank() + born[i]
                    + (one(3) ? "" : " ") + "sour " + (one(80) ? 41 : one(5) ? 0 : one(2) ? below(8) : below(41)) + ";");
        }
        for (int i = 0; i < n; i++) {
            for (int j = 0; j < n; j++) {
                if (one(3) && (born[i] < born[j] || one(200))) {
                    s.append("led " + NAMES[(i + shift) % NAMES.length] + " " + NAMES[(j + shift) % NAMES.length] + blank() + ";");
                }
            }
        }
        s.append(one(2) ? "knife " + (one(30) ? 10 : 1 + below(9)) + ";" : "");
        s.append(one(2) ? "pot " + (one(30) ? 201 : below(201)) + ";" : "");
        s.append(one(2) ? "adds " + (one(30) ? 21 : below(21)) + ";" : "");
        s.append(one(4) ? "" : "takes " + (one(3) ? "" : "left*0+") + law(0) + ";");
        return s.toString();
    }

    private String law(int depth) {
        StringBuilder s = new StringBuilder(test(depth));
        for (int i = 0; i < 3 && one(4); i++) {
            s.append(one(2) ? " and " : " or ").append(test(depth));
        }
        return s.toString();
    }

    private String test(int depth) {
        return sum(depth) + (one(4) ? (one(2) ? "<" : " = ") + sum(depth) : "");
    }

    private String sum(int depth) {
        StringBuilder s = new StringBuilder(product(depth));
        for (int i = 0; i < 3 && one(3); i++) {
            s.append(one(2) ? "+" : "-").append(product(depth));
        }
        return s.toString();
    }

    private String product(int depth) {
        StringBuilder s = new StringBuilder(part(depth));
        for (int i = 0; i < 3 && one(4); i++) {
            s.append("*").append(part(depth));
        }
        return s.toString();
    }

    private String part(int depth) {
        if (depth <= (one(30) ? 5 : 3) && one(3)) {
            return one(2) ? "not " + part(depth + 1) : "(" + law(depth + 1) + ")";
        }
        return one(2) ? FACTS[below(4)] : "" + (one(5) ? below(10000) : below(6));
    }

    private String roundText() {
        StringBuilder s = new StringBuilder();
        int lines = one(15) ? 38 + below(5) : below(14);
        for (int i = 0; i < lines; i++) {
            s.append(one(4) ? "year;" : (one(4) ? "eat " : "spread ") + NAMES[nameOfMatter()] + ";");
        }
        return s.toString();
    }

    /** Mostly one that may be told: names stand in a row from the first one told. */
    private int nameOfMatter() {
        for (int i = 0; i < NAMES.length * 3; i++) {
            int name = below(NAMES.length);
            if (y.toString().contains("name=" + NAMES[name] + ",") || one(60)) {
                return name;
            }
        }
        return 0;
    }

    private String spoilt(String text) {
        StringBuilder s = new StringBuilder(text);
        for (int i = 0; i <= below(2); i++) {
            int at = below(s.length() + 1);
            int to = Math.min(s.length(), at + below(4));
            s.replace(at, to, SCRAPS[below(SCRAPS.length)]);
        }
        return s.toString();
    }

    private int who() {
        return one(25) ? below(12) - 2 : below(Math.max(1, x.count(0)));
    }

    private void change() {
        int m = who();
        switch (below(11)) {
            case 0: both("eat " + m, x.eat(m), y.eat(m)); break;
            case 1: case 2: both("year", x.year(), y.year()); break;
            case 3: both("undo", x.undo() ? 1 : 0, y.undo() ? 1 : 0); break;
            case 4: mark(); break;
            case 5: see(); break;
            default: both("spread " + m, x.spread(m), y.spread(m));
        }
        for (int what = -1; what <= 11; what++) {
            both("count " + what, x.count(what), y.count(what));
        }
        for (int what = -1; what <= 7; what++) {
            both("matter " + m + " " + what, x.matter(m, what), y.matter(m, what));
        }
    }

    private void mark() {
        int mark = below(6) - 1;
        boolean back = one(2);
        both("mark " + mark + " " + back, x.mark(mark, back) ? 1 : 0, y.mark(mark, back) ? 1 : 0);
    }

    private void see() {
        int coats = below(one(2) ? 3 : 12) - 1;
        int sour = one(9) ? below(43) - 1 : below(12);
        boolean less = one(2);
        both("see " + coats + " " + sour + " " + less, x.see(coats, sour, less) ? 1 : 0, y.see(coats, sour, less) ? 1 : 0);
    }

    private void ask() {
        int m = who();
        int o = who();
        int what = below(5) - 1;
        int mustard = one(9) ? below(230) - 15 : below(60);
        int ahead = one(9) ? below(70) - 4 : below(20);
        switch (below(33)) {
            case 0: both("judged " + what, x.judged(what), y.judged(what)); break;
            case 1: both("meant", x.meant(), y.meant()); break;
            case 2: both("right", x.right(), y.right()); break;
            case 3: both("wants " + m, x.wants(m), y.wants(m)); break;
            case 4: both("cost " + m, x.cost(m), y.cost(m)); break;
            case 5: case 6: both("cheap " + m + " " + what, x.cheap(m, what), y.cheap(m, what)); break;
            case 7: case 8: both("most " + mustard + " " + what, x.most(mustard, what), y.most(mustard, what)); break;
            case 9: both("all", x.all(), y.all()); break;
            case 10: both("lacks", x.lacks(), y.lacks()); break;
            case 11: both("easiest", x.easiest(), y.easiest()); break;
            case 12: both("later " + m + " " + ahead, x.later(m, ahead), y.later(m, ahead)); break;
            case 13: both("again " + m, x.again(m), y.again(m)); break;
            case 14: both("heals " + m, x.heals(m), y.heals(m)); break;
            case 15: both("fills " + mustard, x.fills(mustard), y.fills(mustard)); break;
            case 16: both("dinners " + ahead, x.dinners(ahead), y.dinners(ahead)); break;
            case 17: both("causes " + m, x.causes(m), y.causes(m)); break;
            case 18: both("fruits " + m, x.fruits(m), y.fruits(m)); break;
            case 19: both("ways " + m + " " + o, x.ways(m, o), y.ways(m, o)); break;
            case 20: both("story", x.story(), y.story()); break;
            case 21: both("roots", x.roots(), y.roots()); break;
            case 22: both("elders " + m, x.elders(m), y.elders(m)); break;
            case 23: both("redeems", x.redeems(), y.redeems()); break;
            case 24: both("gap", x.gap(), y.gap()); break;
            case 25: both("bare", x.bare(), y.bare()); break;
            case 26: both("sourest", x.sourest(), y.sourest()); break;
            case 27: both("lost", x.lost(), y.lost()); break;
            case 28: both("who", x.who(), y.who()); break;
            case 29: both("taste", x.taste(), y.taste()); break;
            case 30: chance(m); break;
            case 31: rests(); break;
            default: years(what);
        }
    }

    private void chance(int m) {
        int years = one(9) ? below(9) - 1 : 1 + below(6);
        int odds = one(9) ? below(14) - 1 : below(11);
        both("chance " + m + " " + years + " " + odds, x.chance(m, years, odds), y.chance(m, years, odds));
    }

    private void rests() {
        int[] a = {below(one(9) ? 12 : 4), below(one(9) ? 12 : 3), below(one(9) ? 12 : 4), below(7) - 3};
        long want;
        try {
            want = y.rests(a[0], a[1], a[2], a[3]);
        } catch (NoSuchElementException e) {
            want = Check.THROWS;
        }
        both("rests " + java.util.Arrays.toString(a), Check.rests(x, a[0], a[1], a[2], a[3]), want);
    }

    private void years(int what) {
        int seed = one(9) ? below(12000) - 1000 : below(10000);
        int years = one(9) ? below(104) - 2 : 1 + below(99);
        both("years " + seed + " " + years + " " + what, x.years(seed, years, what), y.years(seed, years, what));
    }
}
