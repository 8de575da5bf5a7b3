import java.util.Random;

/** Any arguments in any state, tapes of any bytes: nothing is thrown but what the document names. */
public final class NeverThrowsTest {
    private static final String SIGNS = "matter a plain in 1 sour 5;led b battle knife pot adds takes (left+coats*age-thick)<=not and or year;eat spread ";

    private final Random odd;
    private final MustardPast x = new MustardPast();

    private NeverThrowsTest(int run) {
        odd = new Random(run);
    }

    public static void main(String[] args) {
        for (int run = 0; run < 400; run++) {
            NeverThrowsTest test = new NeverThrowsTest(run);
            try {
                test.go();
                Check.due("run " + run, 0, 0);
            } catch (RuntimeException e) {
                Check.due("run " + run + " threw " + e, 1, 0);
            }
        }
        deepAndLong();
        Check.end();
    }

    private void go() {
        Check.past(x, "matter a battle in 3 sour 12;matter b wedding in 9 sour 20;matter c winter in 9 sour 7;led a b;led a c;"
                + "takes thick+coats*left;");
        for (int i = 0; i < 500; i++) {
            call(odd.nextInt(42));
        }
    }

    private int any() {
        switch (odd.nextInt(8)) {
            case 0: return odd.nextInt();
            case 1: return Integer.MIN_VALUE;
            case 2: return Integer.MAX_VALUE;
            case 3: return odd.nextInt(500) - 100;
            default: return odd.nextInt(12) - 2;
        }
    }

    private long bytes() {
        long word = 0;
        for (int i = 0; i < 8; i++) {
            word = word << 8 | (odd.nextInt(40) == 0 ? odd.nextInt(256) : SIGNS.charAt(odd.nextInt(SIGNS.length())));
        }
        return word;
    }

    private void call(int which) {
        switch (which) {
            case 0: case 1: case 2: x.feed(bytes(), bytes(), bytes()); break;
            case 3: x.past(); break;
            case 4: x.round(); break;
            case 5: x.matter(any(), any()); break;
            case 6: x.spread(any()); break;
            case 7: x.eat(any()); break;
            case 8: x.year(); break;
            case 9: x.undo(); break;
            case 10: x.judged(any()); break;
            case 11: x.right(); break;
            case 12: x.wants(any()); break;
            case 13: x.cost(any()); break;
            case 14: x.cheap(any(), any()); break;
            case 15: x.most(any(), any()); break;
            case 16: x.all(); break;
            case 17: x.lacks(); break;
            case 18: x.easiest(); break;
            case 19: x.later(any(), any()); break;
            case 20: x.again(any()); break;
            case 21: x.heals(any()); break;
            case 22: x.fills(any()); break;
            case 23: x.dinners(any()); break;
            case 24: x.causes(any()); break;
            case 25: x.fruits(any()); break;
            case 26: x.ways(any(), any()); break;
            case 27: x.story(); break;
            case 28: x.roots(); break;
            case 29: x.elders(any()); break;
            case 30: x.redeems(); break;
            case 31: x.gap(); break;
            case 32: x.see(any(), any(), odd.nextBoolean()); break;
            case 33: x.who(); break;
            case 34: x.taste(); break;
            case 35: x.chance(any(), any(), any()); break;
            case 36: Check.rests(x, any(), any(), any(), any()); break;
            case 37: x.years(any(), any(), any()); break;
            case 38: x.mark(any(), odd.nextBoolean()); break;
            case 39: x.count(any()); break;
            default: x.lost();
        }
    }

    /** Laws as long as the tape, and as deep as it can be told. */
    private static void deepAndLong() {
        for (String text : new String[] {"takes " + "1+".repeat(496) + "1;", "takes " + "(".repeat(994), "takes " + "not ".repeat(248) + ";",
            "matter a plain in 1 sour 40;takes " + "1<1 or ".repeat(137) + "1;", ";".repeat(1000), "a".repeat(1000), "9".repeat(1000),
            " ".repeat(1000)}) {
            MustardPast y = new MustardPast();
            int fault = Check.past(y, text);
            Check.due("a fault is of a kind", fault == 0 || fault % 16 >= 1 && fault % 16 <= 5, true);
            y.spread(0);
            y.all();
        }
        MustardPast sum = Check.told("matter a plain in 1 sour 40;takes " + "1+".repeat(480) + "1;");
        Check.due("481, 20 at most", sum.spread(0), 20);
        sum = Check.told("matter a plain in 1 sour 40;takes 1+2*(3-(1+(2*(2+1*1)-5)*1)*1)-0;");
        Check.due("waiting values", sum.spread(0), 37);
        sum = Check.told("matter a plain in 1 sour 40;takes 0 or 1<0+1*(0 or 1<0+1*(0 or 1<0+1*(0 or 1<0+1*2)));");
        Check.due("as many as can wait: 2 is no more than 1 inside", sum.spread(0), 40);
    }
}
