/** Sentence by sentence: SPREAD, EAT, YEAR, UNDO, MEANT, RIGHT, promises 5 to 9, 11 and 12. */
public final class HandEdgesTest {
    private static final String FOUR = "matter p plain in 5 sour 6;matter b battle in 10 sour 6;"
            + "matter w wedding in 20 sour 6;matter s winter in 30 sour 6;";

    public static void main(String[] args) {
        Edges.run(HandEdgesTest.class);
    }

    private static void how(MustardPast x, int matter, int sour, int coats) {
        Check.due("how sour " + matter, x.matter(matter, 2), sour);
        Check.due("coats of " + matter, x.matter(matter, 3), coats);
    }

    @Says("==== 2: SPREAD a MATTER if the pot has as much as the knife (of a battle twice as much)")
    static void asMuchAsTheKnife() {
        for (int knife = 1; knife <= 9; knife++) {
            String told = FOUR + "knife " + knife + ";pot ";
            for (int m = 0; m < 4; m++) {
                int price = m == 1 ? 2 * knife : knife;
                MustardPast x = Check.told(told + price + ";");
                Check.due("just as much", x.spread(m) >= 0, true);
                Check.due("nothing is left", x.count(4), 0);
                Check.due("nothing is not enough", x.spread(m), -1);
                x = Check.told(told + (price - 1) + ";");
                Check.due("one less", x.spread(m), -1);
                Check.due("so much is left", x.count(4), price - 1);
            }
        }
    }

    @Says("==== 2: so much less is in the pot")
    static void soMuchLess() {
        MustardPast x = Check.told(FOUR + "knife 9;pot 200;");
        int[] pots = {191, 173, 164, 155};
        for (int m = 0; m < 4; m++) {
            x.spread(m);
            Check.due("the pot", x.count(4), pots[m]);
        }
    }

    @Says("==== 2: it is less sour by the E of takes (0 to 20), 0 at least")
    static void byTheLaw() {
        int[][] lawAndSour = {{0, 40}, {1, 39}, {19, 21}, {20, 20}, {21, 20}, {9999, 20}};
        for (int[] w : lawAndSour) {
            Check.due("takes " + w[0], Check.told("matter a plain in 1 sour 40;takes " + w[0] + ";").spread(0), w[1]);
        }
        Check.due("less than nothing", Check.told("matter a plain in 1 sour 40;takes 0-1;").spread(0), 40);
        Check.due("far less", Check.told("matter a plain in 1 sour 40;takes 0-9999*9999;").spread(0), 40);
    }

    @Says("==== 2: it is less sour by the E of takes (0 to 20), 0 at least")
    static void nothingAtLeast() {
        String[] sours = {"0", "1", "6", "7", "8", "20"};
        int[] want = {0, 0, 0, 0, 1, 13};
        for (int i = 0; i < want.length; i++) {
            Check.due("sour " + sours[i], Check.told("matter a plain in 1 sour " + sours[i] + ";takes 7;").spread(0), want[i]);
        }
    }

    @Says("==== 2: and has a coat more")
    static void aCoatMore() {
        MustardPast x = Check.told(FOUR + "takes 0;");
        for (int coats = 1; coats <= 3; coats++) {
            for (int m = 0; m < 3; m++) {
                Edges.spread(x, m);
                how(x, m, 6, coats);
            }
        }
        MustardPast meant = Check.told("matter a plain in 1 sour 0;");
        Edges.spread(meant, 0, 0);
        how(meant, 0, 0, 2);
    }

    @Says("==== 2: off a winter it runs: no coat, as sour as ahead")
    static void offAWinter() {
        MustardPast x = Check.told(FOUR + "pot 10;takes 20;");
        for (int left = 7; left >= 1; left -= 3) {
            Check.due("as sour as ahead", x.spread(3), 6);
            Check.due("the pot has less", x.count(4), left);
            how(x, 3, 6, 0);
        }
        Check.due("it can't be without mustard", x.spread(3), -1);
        Check.due("three can be undone", x.count(9), 3);
        MustardPast sweet = Check.told("matter a winter in 1 sour 0;");
        Check.due("one that is not sour", sweet.spread(0), 0);
        how(sweet, 0, 0, 0);
    }

    @Says("==== 2: EAT a MATTER that has coats: it has none, is as sour as told")
    static void eaten() {
        MustardPast x = Check.told(FOUR + "takes 4;");
        for (int m = 0; m < 3; m++) {
            Edges.spread(x, m, m);
            how(x, m, 0, 2);
            int pot = x.count(4);
            Check.due("as sour as told", x.eat(m), 6);
            how(x, m, 6, 0);
            Check.due("the pot stays", x.count(4), pot);
            Check.due("it has none any more", x.eat(m), -1);
        }
    }

    @Says("==== 2: EAT a MATTER that has coats: it has none, is as sour as told")
    static void eatenThoughNothingTook() {
        MustardPast x = Check.told("matter a plain in 1 sour 6;matter b plain in 1 sour 0;takes 0;");
        Edges.spread(x, 0, 1);
        Check.due("a coat that took nothing", x.eat(0), 6);
        Check.due("one that is not sour", x.eat(1), 0);
        Check.due("no coats", x.count(6), 0);
    }

    @Says("==== 2: YEAR: a battle that has coats is 1 sourer, as told at most")
    static void battlesInAYear() {
        MustardPast x = Check.told("matter a battle in 1 sour 6;matter b battle in 1 sour 0;matter c battle in 1 sour 2;takes 2;");
        Edges.spread(x, 0, 1);
        int[] sour = {5, 6, 6, 6};
        for (int want : sour) {
            x.year();
            how(x, 0, want, 1);
            how(x, 1, 0, 1);
            how(x, 2, 2, 0);
        }
    }

    @Says("==== 2: a wedding that has coats 1 less, 0 at least")
    static void weddingsInAYear() {
        MustardPast x = Check.told("matter a wedding in 1 sour 4;matter b wedding in 1 sour 0;matter c wedding in 1 sour 2;takes 2;");
        Edges.spread(x, 0, 1);
        int[] sour = {1, 0, 0, 0};
        for (int want : sour) {
            x.year();
            how(x, 0, want, 1);
            how(x, 1, 0, 1);
            how(x, 2, 2, 0);
        }
    }

    @Says("==== 2: all else stays")
    static void allElseStays() {
        MustardPast x = Check.told("matter a plain in 1 sour 6;matter b plain in 1 sour 6;matter c winter in 1 sour 6;takes 2;");
        Edges.spread(x, 0, 2);
        Edges.passed(x, 3);
        how(x, 0, 4, 1);
        how(x, 1, 6, 0);
        how(x, 2, 6, 0);
        Check.due("the knife", x.count(1), 3);
        Check.due("what adds tells", x.count(2), 4);
    }

    @Says("==== 2: the pot has more by what adds tells, 200 at most")
    static void thePotInAYear() {
        int[][] potAddsThen = {{0, 0, 0}, {0, 20, 20}, {195, 4, 199}, {196, 4, 200}, {197, 4, 200}, {199, 20, 200}, {200, 20, 200}, {200, 0, 200}};
        for (int[] w : potAddsThen) {
            MustardPast x = Check.told("pot " + w[0] + ";adds " + w[1] + ";");
            x.year();
            Check.due("pot " + w[0] + " adds " + w[1], x.count(4), w[2]);
        }
    }

    @Says("==== 2: It is the next year.")
    static void theNextYear() {
        MustardPast x = new MustardPast();
        for (int year = 1; year <= 120; year++) {
            x.year();
            Check.due("year", x.count(3), year);
        }
    }

    @Says("==== 2: UNDO: all of these, the last 16, one by one")
    static void sixteen() {
        MustardPast x = Edges.passed(new MustardPast(), 16);
        for (int year = 15; year >= 0; year--) {
            Check.due("undo", x.undo(), true);
            Check.due("the year", x.count(3), year);
            Check.due("what can be undone yet", x.count(9), year);
        }
        Check.due("no more", x.undo(), false);
    }

    @Says("==== 2: UNDO: all of these, the last 16, one by one")
    static void theSeventeenthIsGone() {
        MustardPast x = Edges.passed(new MustardPast(), 17);
        Check.due("sixteen", x.count(9), 16);
        for (int i = 0; i < 16; i++) {
            Check.due("undo", x.undo(), true);
        }
        Check.due("no more", x.undo(), false);
        Check.due("the first one stays", x.count(3), 1);
        Check.due("its pot", x.count(4), 54);
    }

    @Says("==== 2: UNDO: all of these, the last 16, one by one")
    static void roundAndRound() {
        MustardPast x = new MustardPast();
        int year = 0;
        for (int turn = 0; turn < 9; turn++) {
            Edges.passed(x, 13);
            for (int i = 0; i < 6; i++) {
                Check.due("undo", x.undo(), true);
            }
            year += 7;
            Check.due("the year", x.count(3), year);
            Check.due("what can be undone", x.count(9), turn == 0 ? 7 : 10);
        }
        for (int i = 0; i < 10; i++) {
            Check.due("undo", x.undo(), true);
        }
        Check.due("no more", x.undo(), false);
        Check.due("the year", x.count(3), year - 10);
    }

    @Says("==== 2: UNDO: all of these, the last 16, one by one")
    static void eachIsUndone() {
        MustardPast x = Check.told(FOUR);
        String told = Edges.everything(x);
        x.spread(1);
        String spread = withoutUndone(x);
        x.year();
        String later = withoutUndone(x);
        x.eat(1);
        x.spread(3);
        Check.due("the winter's, too", x.undo(), true);
        Check.due("the pot", x.count(4), 48);
        Check.due("the eating", x.undo(), true);
        Check.due("as it was", withoutUndone(x).equals(later), true);
        Check.due("the year", x.undo(), true);
        Check.due("as it was", withoutUndone(x).equals(spread), true);
        Check.due("the spreading", x.undo(), true);
        Edges.same("as told", told, x);
    }

    private static String withoutUndone(MustardPast x) {
        StringBuilder s = new StringBuilder();
        for (int what = 3; what <= 6; what++) {
            s.append(x.count(what)).append(' ');
        }
        for (int m = 0; m < 4; m++) {
            s.append(x.matter(m, 2)).append(' ').append(x.matter(m, 3)).append(' ');
        }
        return s.toString();
    }

    @Says("==== 2: A MATTER is MEANT if it is 0 sour")
    static void meantIfNotSour() {
        MustardPast x = Check.told("matter a plain in 1 sour 0;matter b plain in 1 sour 1;matter c winter in 1 sour 0;matter d winter in 1 sour 1;"
                + "matter e battle in 1 sour 0;matter f wedding in 1 sour 1;matter g wedding in 1 sour 0;");
        Check.due("meant", x.meant(), 1 + 4 + 16 + 64);
        for (int m = 0; m < 7; m++) {
            Check.due("meant " + m, x.matter(m, 4), x.meant() >> m & 1);
        }
    }

    @Says("==== 2: It is RIGHT if it is MEANT, or led to one that is RIGHT.")
    static void rightThroughHoweverMany() {
        MustardPast x = Check.told(Edges.chain(7));
        Check.due("none", x.right(), 0);
        for (int m = 0; m < 7; m++) {
            Edges.spread(x, m);
            Check.due("all up to it", x.right(), (2 << m) - 1);
            Check.due("it alone is meant", x.meant(), 1 << m);
            x.undo();
        }
    }

    @Says("==== 2: It is RIGHT if it is MEANT, or led to one that is RIGHT.")
    static void rightAgainstTheOrderTold() {
        MustardPast x = Check.told("matter g plain in 9 sour 1;matter f plain in 8 sour 1;matter e plain in 7 sour 1;matter d plain in 6 sour 1;"
                + "matter c plain in 5 sour 1;matter b plain in 4 sour 1;matter a plain in 3 sour 1;"
                + "led a b;led b c;led c d;led d e;led e f;led f g;");
        for (int m = 0; m < 7; m++) {
            Edges.spread(x, m);
            Check.due("it and what led to it", x.right(), 127 & -(1 << m));
            x.undo();
        }
    }

    @Says("==== 2: It is RIGHT if it is MEANT, or led to one that is RIGHT.")
    static void notByWhatLedToIt() {
        MustardPast x = Check.told("matter a plain in 1 sour 1;matter b plain in 2 sour 1;matter c plain in 2 sour 1;led a b;led a c;");
        Edges.spread(x, 0);
        Check.due("a alone", x.right(), 1);
        Edges.spread(x, 1);
        Check.due("not its sister", x.right(), 3);
    }

    @Says("Promise 5: what 0: KIND (0 plain, 1 battle, 2 wedding, 3 winter), 1: its year, 2: how sour it is, 3: coats, 4: 1 MEANT, 5: 1 RIGHT,"
            + " 6: those to which it led itself, as bits")
    static void whatIsAskedOfAMatter() {
        MustardPast x = Check.told(FOUR + "led p b;led b w;led p s;led w s;takes 3;");
        Edges.spread(x, 2, 2);
        int[][] want = {{0, 5, 6, 0, 0, 1, 10}, {1, 10, 6, 0, 0, 1, 4}, {2, 20, 0, 2, 1, 1, 8}, {3, 30, 6, 0, 0, 0, 0}};
        for (int m = 0; m < 4; m++) {
            for (int what = 0; what <= 6; what++) {
                Check.due("matter " + m + " " + what, x.matter(m, what), want[m][what]);
            }
        }
    }

    @Says("Promise 5: NONE: others.")
    static void othersOfMatter() {
        MustardPast x = Check.told(FOUR);
        for (int what : new int[] {-1, 7, 8, 32, 256, Integer.MIN_VALUE, Integer.MAX_VALUE}) {
            Check.due("matter 0 " + what, x.matter(0, what), -1);
        }
        for (int what = 0; what <= 6; what++) {
            Check.due("one too many", x.matter(4, what), -1);
            for (int m : Edges.NO_MATTERS) {
                Check.due("matter " + m + " " + what, x.matter(m, what), -1);
            }
        }
        Check.due("the last one", x.matter(3, 1), 30);
    }

    @Says("Promise 6: SPREAD: how sour it is then; NONE: others, it can't be.")
    static void refusedSpreads() {
        MustardPast x = Check.told(FOUR + "pot 5;");
        String before = Edges.everything(x);
        Check.due("a battle can't be", x.spread(1), -1);
        Check.due("one too many", x.spread(4), -1);
        for (int m : Edges.NO_MATTERS) {
            Check.due("spread " + m, x.spread(m), -1);
        }
        Edges.same("refused", before, x);
        Check.due("nothing can be undone", x.undo(), false);
        Check.due("a plain one can be", x.spread(0), 3);
        Check.due("but not twice", x.spread(0), -1);
        Check.due("one can be undone", x.count(9), 1);
    }

    @Says("Promise 6: SPREAD: how sour it is then; NONE: others, it can't be.")
    static void sevenSpread() {
        MustardPast x = Check.told(Edges.matters(7) + "takes 1;");
        for (int m = 0; m < 7; m++) {
            Check.due("how sour it is then", x.spread(m), 0);
        }
        Check.due("all", x.meant(), 127);
    }

    @Says("Promise 7: EAT: how sour it is then; NONE: others, no coats.")
    static void refusedEating() {
        MustardPast x = Check.told(FOUR);
        x.spread(3);
        String before = Edges.everything(x);
        for (int m = 0; m < 4; m++) {
            Check.due("no coats", x.eat(m), -1);
        }
        Check.due("one too many", x.eat(4), -1);
        for (int m : Edges.NO_MATTERS) {
            Check.due("eat " + m, x.eat(m), -1);
        }
        Edges.same("refused", before, x);
    }

    @Says("Promise 8: YEAR: how many are MEANT then.")
    static void meantThen() {
        MustardPast x = Check.told("matter a battle in 1 sour 3;matter b wedding in 1 sour 5;matter c plain in 1 sour 0;");
        Edges.spread(x, 0, 1);
        Check.due("two are meant", x.meant(), 5);
        int[] then = {1, 2, 2};
        for (int want : then) {
            Check.due("then", x.year(), want);
        }
        Check.due("without matters", new MustardPast().year(), 0);
    }

    @Says("Promise 8: YEAR: how many are MEANT then.")
    static void sevenMeant() {
        Check.due("seven", Check.told(Edges.matters(7).replace("sour 1", "sour 0")).year(), 7);
    }

    @Says("Promise 9: UNDO: true; false: nothing can be.")
    static void nothingCanBeUndone() {
        MustardPast x = Check.told(FOUR + "pot 5;");
        Check.due("nothing was done", x.undo(), false);
        x.spread(1);
        x.eat(0);
        x.see(1, 1, true);
        x.mark(0, false);
        Check.due("nothing of these", x.undo(), false);
        Check.due("round", Check.round(x, "year;"), 0);
        Check.due("nothing of these", x.undo(), false);
        x.spread(0);
        Check.due("this one", x.undo(), true);
        Check.due("once", x.undo(), false);
        Check.due("what is seen stays", x.count(8), 1);
        Check.due("the round stays", x.count(7), 1);
    }

    @Says("Promise 11: MEANT, as bits.")
    static void meantAsBits() {
        MustardPast x = Check.told(Edges.matters(7));
        int bits = 0;
        for (int m : new int[] {6, 0, 3}) {
            Check.due("meant", x.meant(), bits);
            Edges.spread(x, m);
            bits |= 1 << m;
        }
        Check.due("meant", x.meant(), bits);
    }

    @Says("Promise 12: RIGHT, as bits.")
    static void rightAsBits() {
        MustardPast x = Check.told(Edges.matters(7) + "led a g;led b g;led c f;");
        Edges.spread(x, 6);
        Check.due("right", x.right(), 64 + 1 + 2);
        Edges.spread(x, 5);
        Check.due("right", x.right(), 64 + 1 + 2 + 32 + 4);
        for (int m = 0; m < 7; m++) {
            Check.due("right " + m, x.matter(m, 5), x.right() >> m & 1);
        }
    }
}
