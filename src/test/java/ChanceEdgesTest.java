/** Sentence by sentence: CHANCE, DINNER and RESTS, DRAW and YEARS, promises 39 to 41. */
public final class ChanceEdgesTest {
    private static final String ONE = "matter a plain in 0 sour 3;pot 200;";
    private static final String SEVEN = "matter a plain in 1 sour 9;matter b battle in 2 sour 9;matter c wedding in 3 sour 9;matter d winter in 4 sour 9;"
            + "matter e plain in 5 sour 0;matter f battle in 6 sour 3;matter g wedding in 7 sour 40;pot 11;adds 2;takes 2+coats*(age<120);";

    public static void main(String[] args) {
        Edges.run(ChanceEdgesTest.class);
    }

    @Says("==== 3: (By how it is now, nothing else being done.)")
    static void nothingElseIsDone() {
        MustardPast x = Edges.rounded(SEVEN, "spread a;year;");
        Edges.spread(x, 0, 2);
        x.see(1, 3, true);
        String before = Edges.everything(x);
        for (int m = -1; m <= 7; m++) {
            x.chance(m, 6, 5);
        }
        for (int what = -1; what <= 3; what++) {
            x.years(7, 99, what);
            Check.rests(x, 1, 0, 1, what);
        }
        Edges.same("asked", before, x);
    }

    @Says("==== 3: CHANCE: in each of so many (1 to 6) YEARS from this one on")
    static void oneToSixYears() {
        MustardPast x = Check.told(ONE);
        int[] half = {500000, 750000, 875000, 937500, 968750, 984375};
        int[] tenth = {100000, 190000, 271000, 343900, 409510, 468559};
        for (int years = 1; years <= 6; years++) {
            Check.due("by half, years " + years, x.chance(0, years, 5), half[years - 1]);
            Check.due("by a tenth, years " + years, x.chance(0, years, 1), tenth[years - 1]);
        }
    }

    @Says("==== 3: CHANCE: in each of so many (1 to 6) YEARS from this one on")
    static void fromThisOneOn() {
        MustardPast x = Check.told("matter a plain in 0 sour 20;pot 200;takes 20*(age=100);");
        Check.due("in this year alone", x.chance(0, 1, 3), 300000);
        Check.due("in this year alone", x.chance(0, 6, 3), 300000);
        x.year();
        Check.due("too late", x.chance(0, 6, 10), 0);
        x = Check.told("matter a plain in 0 sour 20;pot 200;takes 20*(age=105);");
        Check.due("not in five", x.chance(0, 5, 10), 0);
        Check.due("in the sixth one", x.chance(0, 6, 3), 300000);
        x.year();
        Check.due("in the fifth one", x.chance(0, 5, 3), 300000);
    }

    @Says("==== 3: CHANCE: .. a MATTER is SPREAD ahead of the YEAR")
    static void aheadOfTheYear() {
        Check.due("a wedding is made right by the year behind it", Check.told("matter a wedding in 1 sour 4;").chance(0, 1, 3), 300000);
        Check.due("a battle is sour again by it", Check.told("matter a battle in 1 sour 3;").chance(0, 1, 10), 0);
        Check.due("a battle that was never sour", Check.told("matter a battle in 1 sour 0;").chance(0, 6, 5), 1000000);
        Check.due("a winter", Check.told("matter a winter in 1 sour 1;takes 20;").chance(0, 6, 10), 0);
        Check.due("a winter that is meant", Check.told("matter a winter in 1 sour 0;").chance(0, 6, 10), 1000000);
        MustardPast x = Edges.spread(Check.told("matter a wedding in 1 sour 5;takes 2;"), 0);
        Check.due("two years heal 3 to 1", x.chance(0, 2, 0), 0);
        Check.due("three years heal it", x.chance(0, 3, 0), 1000000);
        x = Edges.spread(Check.told("matter a battle in 1 sour 3;"), 0);
        Check.due("meant now, but not then", x.chance(0, 1, 0), 0);
    }

    @Says("==== 3: CHANCE: .. by odds of ten")
    static void byOddsOfTen() {
        MustardPast x = Check.told(ONE);
        for (int odds = 0; odds <= 10; odds++) {
            Check.due("odds " + odds, x.chance(0, 1, odds), 100000 * odds);
        }
        Check.due("never", x.chance(0, 6, 0), 0);
        Check.due("nearly always", x.chance(0, 6, 9), 999999);
        Check.due("always", x.chance(0, 6, 10), 1000000);
        MustardPast twice = Check.told("matter a plain in 0 sour 6;pot 200;");
        Check.due("twice in two", twice.chance(0, 2, 3), 90000);
        Check.due("twice in three", twice.chance(0, 3, 3), 216000);
        MustardPast six = Check.told("matter a plain in 0 sour 18;pot 200;");
        Check.due("six in six, a millionth", six.chance(0, 6, 1), 1);
        Check.due("six in five", six.chance(0, 5, 10), 0);
    }

    @Says("==== 3: CHANCE: .. if it can be")
    static void ifItCanBe() {
        Check.due("just enough", Check.told("matter a plain in 1 sour 3;pot 3;adds 0;").chance(0, 1, 5), 500000);
        Check.due("one less", Check.told("matter a plain in 1 sour 3;pot 2;adds 0;").chance(0, 6, 5), 0);
        MustardPast x = Check.told("matter a plain in 1 sour 3;pot 2;adds 1;");
        Check.due("not in the first year", x.chance(0, 1, 10), 0);
        Check.due("in the second one", x.chance(0, 2, 5), 500000);
        x = Check.told("matter a plain in 1 sour 6;pot 5;adds 0;");
        Check.due("once alone", x.chance(0, 6, 10), 0);
        x = Check.told("matter a plain in 1 sour 6;pot 6;adds 0;");
        Check.due("twice", x.chance(0, 6, 10), 1000000);
        Check.due("the odd years fall as they may", x.chance(0, 2, 5), 250000);
    }

    @Says("Promise 39: CHANCE, by odds (0 to 10); NONE: others.")
    static void othersOfChance() {
        MustardPast x = Check.told(ONE);
        for (int years : new int[] {0, -1, 7, 8, 60, Integer.MIN_VALUE, Integer.MAX_VALUE}) {
            Check.due("years " + years, x.chance(0, years, 5), -1);
        }
        for (int odds : new int[] {-1, 11, 12, 100, Integer.MIN_VALUE, Integer.MAX_VALUE}) {
            Check.due("odds " + odds, x.chance(0, 1, odds), -1);
        }
        for (int m : Edges.NO_MATTERS) {
            Check.due("chance " + m, x.chance(m, 1, 5), -1);
        }
        Check.due("one too many", x.chance(1, 1, 5), -1);
        Check.due("an empty past", new MustardPast().chance(0, 1, 5), -1);
    }

    @Says("==== 3: DINNER of two: each passes the pot or keeps it .. RESTS: by which neither would get more by the other.")
    static void everyDinner() {
        for (int both = 0; both <= 9; both++) {
            for (int loses = 0; loses <= 9; loses++) {
                MustardPast x = new MustardPast();
                for (int gets = 0; gets <= 9; gets++) {
                    int rests = 1 | (loses == 0 && gets >= both ? 6 : 0) | (both >= gets ? 8 : 0);
                    resting(x, new int[] {both, loses, gets}, rests);
                }
            }
        }
    }

    private static void resting(MustardPast x, int[] d, int rests) {
        String dinner = "rests " + d[0] + " " + d[1] + " " + d[2] + " ";
        int found = 0;
        for (int choices = 0; choices < 4; choices++) {
            if ((rests >> choices & 1) == 1) {
                Check.due(dinner + found, Check.rests(x, d[0], d[1], d[2], found), choices);
                found++;
            }
        }
        Check.due(dinner + "how many", Check.rests(x, d[0], d[1], d[2], MustardPast.NONE), found);
        Check.due(dinner + "one too many", Check.rests(x, d[0], d[1], d[2], found), Check.THROWS);
    }

    @Says("Promise 40: what NONE: how many; i: the i-th as 2 * the first one's choice + the other one's (1 passes; the least first)")
    static void theLeastFirst() {
        MustardPast x = new MustardPast();
        resting(x, new int[] {0, 0, 0}, 15);
        resting(x, new int[] {0, 0, 1}, 7);
        resting(x, new int[] {1, 0, 0}, 9);
        resting(x, new int[] {0, 1, 1}, 1);
        resting(x, new int[] {9, 9, 9}, 9);
        resting(x, new int[] {8, 9, 9}, 1);
    }

    @Says("Promise 40: NoSuchElementException: others, none such.")
    static void othersOfRests() {
        MustardPast x = new MustardPast();
        for (int wrong : new int[] {-1, 10, 11, 256, Integer.MIN_VALUE, Integer.MAX_VALUE}) {
            for (int what = -1; what <= 0; what++) {
                Check.due("both " + wrong, Check.rests(x, wrong, 0, 0, what), Check.THROWS);
                Check.due("loses " + wrong, Check.rests(x, 0, wrong, 0, what), Check.THROWS);
                Check.due("gets " + wrong, Check.rests(x, 0, 0, wrong, what), Check.THROWS);
            }
        }
        for (int what : new int[] {-2, -3, 4, 5, 32, Integer.MIN_VALUE, Integer.MAX_VALUE}) {
            Check.due("what " + what, Check.rests(x, 0, 0, 0, what), Check.THROWS);
        }
        Check.due("the last one", Check.rests(x, 0, 0, 0, 3), 3);
        Check.due("none such", Check.rests(x, 4, 3, 6, 1), Check.THROWS);
    }

    @Says("Promise 40: NoSuchElementException: others, none such.")
    static void whatThrewChangesNothing() {
        MustardPast x = Edges.rounded(SEVEN, "spread a;year;");
        Edges.spread(x, 0);
        String before = Edges.everything(x);
        Check.due("it throws", Check.rests(x, 10, 0, 0, -1), Check.THROWS);
        Check.due("it throws", Check.rests(x, 0, 0, 0, 4), Check.THROWS);
        Edges.same("threw", before, x);
    }

    /** The years done by hand on another object, with draws of its own. */
    private static void asByHand(String told, int seed, int made) {
        MustardPast x = Check.told(told);
        MustardPast hand = Check.told(told);
        for (int m = 0; m < made; m++) {
            x.spread(m);
            hand.spread(m);
        }
        int n = hand.count(0);
        long g = seed;
        int spreads = 0;
        for (int years = 1; years <= 99; years++) {
            g = (g * 1103515245L + 12345L) & 0x7FFFFFFFL;
            int m = (int) ((g >> 16) % n);
            g = (g * 1103515245L + 12345L) & 0x7FFFFFFFL;
            int choice = (int) ((g >> 16) & 3);
            if (choice == 0) {
                hand.eat(m);
            } else if (choice != 3 && hand.spread(m) >= 0) {
                spreads++;
            }
            hand.year();
            if (years < 4 || years > 96) {
                String what = "seed " + seed + " years " + years + " ";
                Check.due(what + 0, x.years(seed, years, 0), spreads);
                Check.due(what + 1, x.years(seed, years, 1), hand.meant());
                Check.due(what + 2, x.years(seed, years, 2), hand.count(4));
            }
        }
    }

    @Says("==== 3: A DRAW below m: g becomes (g * 1103515245 + 12345) modulo 2147483648 (g is the SEED at first); it is g / 65536, cut, modulo m.")
    static void draws() {
        MustardPast two = Check.told("matter a plain in 1 sour 3;matter b plain in 1 sour 3;");
        Check.due("16838 below 2 is 0, 5758 below 4 is 2: a is spread", two.years(1, 1, 1), 1);
        MustardPast seven = Check.told(Edges.matters(7) + "takes 1;");
        Check.due("16838 below 7 is 3", seven.years(1, 1, 1), 8);
        for (int seed : new int[] {0, 1, 5, 4999, 9998, 9999}) {
            asByHand(SEVEN, seed, 0);
            asByHand(SEVEN, seed, 3);
            asByHand(ONE, seed, 1);
            asByHand(SEVEN.replace("matter g wedding in 7 sour 40;", ""), seed, 2);
        }
    }

    @Says("==== 3: YEARS by a SEED of so many (1 to 99), from now on (all is as ahead then)")
    static void fromNowOn() {
        MustardPast x = Check.told("matter a plain in 1 sour 4;takes 2;");
        Check.due("5758 below 4: it is spread, and 2 sour", x.years(1, 1, 1), 0);
        Edges.spread(x, 0);
        Check.due("meant", x.years(1, 1, 1), 1);
        Check.due("50 - 3 - 3 + 4", x.years(1, 1, 2), 48);
        Check.due("as ahead", x.matter(0, 2) * 100 + x.count(4), 247);
        Check.due("as ahead", x.count(3) * 100 + x.count(9), 1);
    }

    @Says("==== 3: YEARS .. each, if there are MATTERS")
    static void withoutMatters() {
        MustardPast x = Check.told("pot 7;adds 2;");
        Check.due("none is spread", x.years(1, 99, 0), 0);
        Check.due("none is meant", x.years(1, 99, 1), 0);
        Check.due("the pot alone", x.years(1, 1, 2), 9);
        Check.due("the pot alone", x.years(1, 96, 2), 199);
        Check.due("200 at most", x.years(1, 97, 2), 200);
        Check.due("200 at most", x.years(1, 99, 2), 200);
    }

    @Says("==== 3: YEARS .. 0: that one is EATEN, 1, 2: SPREAD (each if it can be)")
    static void ifItCanBeInYears() {
        MustardPast x = Check.told("matter a plain in 1 sour 3;pot 2;adds 0;");
        Check.due("it never can be", x.years(1, 99, 0), 0);
        Check.due("the pot", x.years(1, 99, 2), 2);
        x = Check.told("matter a plain in 1 sour 3;pot 3;adds 0;");
        Check.due("once", x.years(1, 99, 0), 1);
        Check.due("the pot", x.years(1, 99, 2), 0);
        x = Check.told("matter a winter in 1 sour 3;pot 6;adds 0;");
        Check.due("it runs off a winter", x.years(1, 99, 0), 2);
        Check.due("the pot", x.years(1, 99, 2), 0);
        Check.due("as bare as ahead", x.years(1, 99, 1), 0);
    }

    @Says("Promise 41: YEARS by a SEED (0 to 9999), what 0: how many, 1: bits, 2: pot; NONE: others.")
    static void othersOfYears() {
        for (MustardPast x : new MustardPast[] {new MustardPast(), Check.told(SEVEN)}) {
            for (int what = 0; what <= 2; what++) {
                for (int seed : new int[] {-1, 10000, 10001, Integer.MIN_VALUE, Integer.MAX_VALUE}) {
                    Check.due("seed " + seed, x.years(seed, 1, what), -1);
                }
                for (int years : new int[] {0, -1, 100, 101, Integer.MIN_VALUE, Integer.MAX_VALUE}) {
                    Check.due("years " + years, x.years(0, years, what), -1);
                }
            }
            for (int what : new int[] {-1, 3, 4, 32, Integer.MIN_VALUE, Integer.MAX_VALUE}) {
                Check.due("what " + what, x.years(0, 1, what), -1);
            }
            Check.due("the edges are fine", x.years(0, 1, 2) >= 0 && x.years(9999, 99, 2) >= 0, true);
        }
    }
}
