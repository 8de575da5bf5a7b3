/** Promises 39 to 43: chance, rests, years, marks, counts. */
public final class OddsTest {
    public static void main(String[] args) {
        chances();
        rests();
        draws();
        marks();
        counts();
        Check.end();
    }

    private static void chances() {
        MustardPast x = Check.told("matter p plain in 1 sour 3;matter b battle in 1 sour 3;matter w wedding in 1 sour 4;"
                + "matter s winter in 1 sour 1;matter z winter in 1 sour 0;pot 3;adds 0;");
        Check.due("half", x.chance(0, 1, 5), 500000);
        Check.due("once in two, the pot being empty then", x.chance(0, 2, 5), 750000);
        Check.due("once in six", x.chance(0, 6, 1), 468559);
        Check.due("never", x.chance(0, 6, 0), 0);
        Check.due("always", x.chance(0, 1, 10), 1000000);
        Check.due("a wedding, by the year behind it", x.chance(2, 1, 3), 300000);
        Check.due("a winter", x.chance(3, 6, 10), 0);
        Check.due("a winter that is meant", x.chance(4, 6, 5), 1000000);
        Check.due("others", x.chance(5, 1, 5), -1);
        Check.due("others", x.chance(-1, 1, 5), -1);
        Check.due("others", x.chance(0, 0, 5), -1);
        Check.due("others", x.chance(0, 7, 5), -1);
        Check.due("others", x.chance(0, 1, -1), -1);
        Check.due("others", x.chance(0, 1, 11), -1);
        Check.due("all is as ahead", x.count(3) * 1000 + x.count(4), 3);
        x = Check.told("matter b battle in 1 sour 3;pot 200;");
        Check.due("a battle is sour again by the year", x.chance(0, 6, 10), 0);
        x = Check.told("matter p plain in 1 sour 3;pot 2;adds 1;");
        Check.due("not in the first year", x.chance(0, 1, 10), 0);
        Check.due("but in the second one", x.chance(0, 2, 5), 500000);
        x = Check.told("matter p plain in 98 sour 20;pot 200;takes 20*(age=3);");
        Check.due("by the age in its second year alone", x.chance(0, 3, 4), 400000);
    }

    private static void resting(int both, int loses, int gets, int... want) {
        MustardPast x = new MustardPast();
        String what = "rests " + both + " " + loses + " " + gets;
        Check.due(what, Check.rests(x, both, loses, gets, -1), want.length);
        for (int i = 0; i < want.length; i++) {
            Check.due(what + " " + i, Check.rests(x, both, loses, gets, i), want[i]);
        }
        for (int none : new int[] {want.length, 4, -2, Integer.MAX_VALUE, Integer.MIN_VALUE}) {
            Check.due(what + " " + none, Check.rests(x, both, loses, gets, none), Check.THROWS);
        }
    }

    private static void rests() {
        resting(4, 3, 6, 0);
        resting(0, 9, 0, 0, 3);
        resting(9, 0, 0, 0, 3);
        resting(0, 0, 5, 0, 1, 2);
        resting(0, 0, 0, 0, 1, 2, 3);
        resting(5, 3, 5, 0, 3);
        resting(9, 9, 9, 0, 3);
        MustardPast x = new MustardPast();
        for (int wrong : new int[] {-1, 10}) {
            Check.due("others", Check.rests(x, wrong, 0, 0, -1), Check.THROWS);
            Check.due("others", Check.rests(x, 0, wrong, 0, -1), Check.THROWS);
            Check.due("others", Check.rests(x, 0, 0, wrong, 0), Check.THROWS);
        }
    }

    /** From the seed 1 come 16838, 5758, 10113, 17515, 31051, 5627, 23010, 7419, 16212, 4086. */
    private static void draws() {
        MustardPast x = Check.told("matter a plain in 1 sour 3;matter b plain in 1 sour 3;");
        Check.due("a is spread", x.years(1, 1, 0), 1);
        Check.due("a is meant", x.years(1, 1, 1), 1);
        Check.due("the pot", x.years(1, 1, 2), 51);
        Check.due("nothing for three years", x.years(1, 4, 0), 1);
        Check.due("a again", x.years(1, 5, 0), 2);
        Check.due("a alone", x.years(1, 5, 1), 1);
        Check.due("the pot", x.years(1, 5, 2), 64);
        Check.due("all is as ahead", x.count(3) + x.count(6) + x.count(9), 0);
        Check.due("all is as ahead", x.count(4), 50);
        MustardPast poor = Check.told("matter a plain in 1 sour 3;matter b plain in 1 sour 3;pot 0;adds 0;");
        Check.due("it can't be", poor.years(1, 99, 0), 0);
        Check.due("it can't be", poor.years(1, 99, 2), 0);
        MustardPast none = new MustardPast();
        Check.due("without matters", none.years(9999, 99, 0), 0);
        Check.due("without matters", none.years(0, 99, 1), 0);
        Check.due("without matters", none.years(0, 99, 2), 200);
        int[][] others = {{-1, 1, 0}, {10000, 1, 0}, {0, 0, 0}, {0, 100, 0}, {0, 1, -1}, {0, 1, 3}};
        for (int[] o : others) {
            Check.due("others", x.years(o[0], o[1], o[2]), -1);
        }
        MustardPast one = Check.told("matter a plain in 1 sour 4;takes 2;");
        one.spread(0);
        Check.due("from now on", one.years(1, 1, 1), 1);
    }

    private static void marks() {
        MustardPast x = Check.told("matter a wedding in 1 sour 9;");
        Check.due("none such", x.mark(-1, false), false);
        Check.due("none such", x.mark(4, false), false);
        Check.due("none such", x.mark(-1, true), false);
        Check.due("none such", x.mark(4, true), false);
        Check.due("nothing is on it", x.mark(3, true), false);
        Check.due("laid", x.mark(0, false), true);
        x.spread(0);
        x.year();
        x.see(1, 1, true);
        Check.due("round", Check.round(x, "year;eat a;"), 0);
        Check.due("laid", x.mark(3, false), true);
        Check.due("by laying it nothing is lost", x.count(9), 2);
        x.undo();
        x.see(2, 2, false);
        Check.due("round", Check.round(x, "year;"), 0);
        Check.feed(x, "abc");
        Check.due("back", x.mark(3, true), true);
        int[] counts = {1, 3, 4, 1, 51, 5, 1, 2, 1, 0, 3};
        for (int what = 0; what < counts.length; what++) {
            Check.due("back: count " + what, x.count(what), counts[what]);
        }
        Check.due("nothing can be undone", x.undo(), false);
        Check.due("its round", x.judged(0), 1);
        Check.due("back", x.mark(0, true), true);
        Check.due("no round", x.count(7), 0);
        Check.due("nothing seen", x.count(8), 0);
        Check.due("as told", x.count(5), 9);
        Check.due("it stays", x.mark(3, true), true);
        Check.due("as it was", x.count(5), 5);
        x.year();
        Check.due("laid anew", x.mark(0, false), true);
        x.eat(0);
        Check.due("back", x.mark(0, true), true);
        Check.due("as it was", x.count(5), 4);
        Check.due("nothing is on it", x.mark(1, true), false);
        sightsKept();
        Check.due("nothing is on it", x.mark(2, true), false);
    }

    private static void sightsKept() {
        MustardPast x = Check.told("matter a plain in 1 sour 9;matter b plain in 1 sour 2;");
        x.mark(0, false);
        x.see(0, 2, true);
        Check.round(x, "spread b;");
        x.mark(1, false);
        x.mark(0, true);
        x.see(1, 5, false);
        Check.round(x, "eat b;");
        x.mark(2, false);
        Check.due("back", x.mark(1, true), true);
        Check.due("b", x.who(), 2);
        Check.due("its round", x.judged(2), 1);
        Check.due("back", x.mark(2, true), true);
        Check.due("a", x.who(), 1);
        Check.due("its round", x.judged(0), 0);
    }

    private static void counts() {
        MustardPast x = Check.told("matter a battle in 1 sour 9;matter b plain in 1 sour 4;knife 2;adds 5;pot 30;");
        x.spread(0);
        x.spread(1);
        x.spread(1);
        x.year();
        x.see(0, 0, true);
        Check.due("round", Check.round(x, "year;year;year;"), 0);
        Check.feed(x, "pot");
        int[] counts = {2, 2, 5, 1, 27, 8, 3, 3, 1, 4, 3};
        for (int what = 0; what < counts.length; what++) {
            Check.due("count " + what, x.count(what), counts[what]);
        }
        for (int other : new int[] {-1, 11, Integer.MAX_VALUE, Integer.MIN_VALUE}) {
            Check.due("others", x.count(other), -1);
        }
    }
}
