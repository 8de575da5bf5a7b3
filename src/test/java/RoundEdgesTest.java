/** Sentence by sentence: ROUND, JUDGED, promises 4 and 10. */
public final class RoundEdgesTest {
    private static final String TWO = "matter a plain in 1 sour 6;matter b battle in 2 sour 6;";

    public static void main(String[] args) {
        Edges.run(RoundEdgesTest.class);
    }

    private static void judged(MustardPast x, int impossible, int right, int meant) {
        Check.due("the first line that can't be", x.judged(0), impossible);
        Check.due("the first line behind which all are right", x.judged(1), right);
        Check.due("how many are meant at last", x.judged(2), meant);
    }

    @Says("ROUND: any number of   spread NAME ;   eat NAME ;   year ;")
    static void noLines() {
        MustardPast x = Edges.rounded(TWO, "spread a;year;");
        Check.due("two lines", x.count(7), 2);
        Check.due("an empty tape", x.round(), 0);
        Check.due("is a round without lines", x.count(7), 0);
        x = Edges.rounded(TWO, "spread a;year;");
        Check.due("blanks", Check.round(x, "\n \n"), 0);
        Check.due("are a round without lines", x.count(7), 0);
    }

    @Says("ROUND: any number of   spread NAME ;   eat NAME ;   year ;")
    static void lines() {
        Check.due("each", Edges.rounded(TWO, "spread a;eat b;year;").count(7), 3);
        Check.due("with blanks", Edges.rounded(TWO, "\nspread\na\n;\n eat b ; year ; ").count(7), 3);
        Check.due("the same again", Edges.rounded(TWO, "year;year;eat a;eat a;").count(7), 4);
        Check.due("without matters", Edges.rounded("", "year;").count(7), 1);
    }

    @Says("ROUND: 40 lines at most")
    static void fortyLines() {
        Check.due("forty", Edges.rounded(TWO, "year;".repeat(40)).count(7), 40);
        Check.due("forty", Edges.rounded(TWO, "spread a;".repeat(40) + "\n").count(7), 40);
        Edges.roundFault(5, TWO, "year;".repeat(40) + "^year;");
        Edges.roundFault(5, TWO, "spread a;".repeat(40) + " ^eat b;");
    }

    @Says("FAULTS: the first word of a 41st line of a ROUND")
    static void theFirstWordOfA41st() {
        for (String verb : "spread eat year".split(" ")) {
            Edges.roundFault(5, TWO, "eat a;".repeat(40) + "^" + verb);
            Edges.roundFault(5, TWO, "eat a;".repeat(40) + "^" + verb + " c;");
        }
        for (String other : "matter pot plain a c ; 5 ( !".split(" ")) {
            Edges.roundFault(1, TWO, "eat a;".repeat(40) + "^" + other);
        }
    }

    @Says("ROUND: (a MATTER; a MATTER)")
    static void ofMatters() {
        Edges.roundFault(2, TWO, "spread ^c;");
        Edges.roundFault(2, TWO, "eat ^c;");
        Edges.roundFault(2, TWO, "spread a;spread b;eat ^ab;");
        Edges.roundFault(2, TWO, "spread ^left;");
        Edges.roundFault(2, "", "spread ^a;");
        Edges.roundFault(1, TWO, "spread ^5;");
        Edges.roundFault(1, TWO, "year ^a;");
    }

    @Says("NAME: A NAME is another WORD than matter, in, sour, led, knife, pot, adds, takes, spread, eat, year, the KINDS, not, and, or")
    static void wordsThatAreNoNames() {
        for (String word : "matter in sour led knife pot adds takes spread eat year plain battle wedding winter not and or".split(" ")) {
            Edges.roundFault(1, TWO, "spread ^" + word + ";");
            Edges.roundFault(1, TWO, "eat ^" + word + ";");
        }
    }

    @Says("FAULTS: 1 it is none, or can't stand there")
    static void kindOne() {
        Edges.roundFault(1, TWO, "^;");
        Edges.roundFault(1, TWO, "^a;");
        Edges.roundFault(1, TWO, "^pot 7;");
        Edges.roundFault(1, TWO, "^matter c plain in 1 sour 1;");
        Edges.roundFault(1, TWO, "^led a b;");
        Edges.roundFault(1, TWO, "spread^");
        Edges.roundFault(1, TWO, "spread^;");
        Edges.roundFault(1, TWO, "spread a^");
        Edges.roundFault(1, TWO, "spread a ^b;");
        Edges.roundFault(1, TWO, "year  ^");
        Edges.roundFault(1, TWO, "year ^year;");
        Edges.roundFault(1, TWO, "year;^;");
        Edges.roundFault(1, TWO, "year;^5");
        Edges.roundFault(1, TWO, "year;^yearyearx;");
        Edges.roundFault(1, TWO, "^SPREAD a;");
    }

    @Says("Promise 4: The TAPE is read as a ROUND, likewise.")
    static void allStaysBehindAFault() {
        MustardPast x = Edges.rounded(TWO, "spread a;spread a;year;");
        x.spread(1);
        x.see(1, 2, true);
        String before = Edges.everything(x);
        Check.due("a fault", Check.round(x, "year;year;year;year;eat b"), 1 + 16 * 25);
        Edges.same("behind a fault", before, x);
        Check.due("an unknown name", Check.round(x, "year;year;eat c;"), 2 + 16 * 14);
        Edges.same("behind a fault", before, x);
        Check.due("a 41st", Check.round(x, "year;".repeat(41)), 5 + 16 * 200);
        Edges.same("behind a fault", before, x);
    }

    @Says("FAULTS: A ROUND is the ROUND.")
    static void aRoundIsTheRound() {
        MustardPast x = Edges.rounded(TWO, "spread a;spread a;year;");
        x.spread(1);
        x.see(1, 2, true);
        judged(x, -1, -1, 1);
        Check.due("another one", Check.round(x, "eat b;"), 0);
        judged(x, 0, -1, 0);
        int[] counts = {2, 3, 4, 0, 44, 9, 1, 1, 1, 1, 0};
        for (int what = 0; what < counts.length; what++) {
            Check.due("nothing else is changed by it: count " + what, x.count(what), counts[what]);
        }
    }

    @Says("JUDGED: the ROUND from the beginning")
    static void fromTheBeginning() {
        MustardPast x = Edges.rounded(TWO + "pot 6;adds 0;takes left*(age<100);", "spread a;spread a;spread a;");
        judged(x, 2, -1, 1);
        x.spread(0);
        Edges.passed(x, 3);
        judged(x, 2, -1, 1);
        x.spread(0);
        judged(x, 2, -1, 1);
        Check.due("nothing is done by it", x.count(4), 0);
    }

    @Says("JUDGED: (a line that can't be is left out; a year always can)")
    static void leftOut() {
        MustardPast x = Edges.rounded("matter a plain in 1 sour 6;pot 4;", "spread a;spread a;year;spread a;");
        judged(x, 1, 3, 1);
        x = Edges.rounded("matter a plain in 1 sour 6;matter b battle in 1 sour 1;pot 5;", "eat a;spread b;spread a;eat a;eat a;");
        judged(x, 0, -1, 0);
    }

    @Says("JUDGED: (a line that can't be is left out; a year always can)")
    static void aYearAlwaysCan() {
        judged(Edges.rounded("matter a plain in 1 sour 6;pot 200;adds 20;", "year;".repeat(40)), -1, -1, 0);
        judged(Edges.rounded("pot 0;adds 0;", "year;".repeat(40)), -1, 0, 0);
    }

    @Says("JUDGED: the first line (from 0) that can't be")
    static void theFirstThatCantBe() {
        judged(Edges.rounded(TWO, "eat a;eat b;"), 0, -1, 0);
        judged(Edges.rounded(TWO, "year;".repeat(39) + "eat a;"), 39, -1, 0);
        judged(Edges.rounded(TWO + "pot 3;", "spread b;spread a;"), 0, -1, 0);
        judged(Edges.rounded(TWO + "pot 6;", "spread b;spread b;"), 1, -1, 0);
        judged(Edges.rounded("matter w winter in 1 sour 1;pot 7;", "spread w;spread w;spread w;"), 2, -1, 0);
        judged(Edges.rounded("matter w winter in 1 sour 1;pot 7;", "spread w;eat w;"), 1, -1, 0);
    }

    @Says("JUDGED: the first one behind which all MATTERS are RIGHT (without any: the first one)")
    static void theFirstBehindWhichAllAreRight() {
        judged(Edges.rounded("matter a plain in 1 sour 3;", "spread a;eat a;"), -1, 0, 0);
        judged(Edges.rounded("matter a plain in 1 sour 3;", "year;".repeat(39) + "spread a;"), -1, 39, 1);
        judged(Edges.rounded(TWO + "led a b;", "spread b;spread b;spread a;"), -1, 1, 1);
        judged(Edges.rounded(TWO + "led a b;", "spread a;spread a;spread b;"), -1, -1, 1);
        judged(Edges.rounded("matter a wedding in 1 sour 5;", "spread a;year;year;year;"), -1, 2, 1);
        judged(Edges.rounded("matter a plain in 1 sour 0;", "year;spread a;"), -1, 0, 1);
    }

    @Says("JUDGED: the first one behind which all MATTERS are RIGHT (without any: the first one)")
    static void withoutAnyMatters() {
        judged(Edges.rounded("", "year;year;"), -1, 0, 0);
        judged(Check.told(""), -1, -1, 0);
    }

    @Says("JUDGED: how many are MEANT at last")
    static void meantAtLast() {
        judged(Edges.rounded("matter a battle in 1 sour 3;matter b plain in 1 sour 0;", "spread a;year;"), -1, 0, 1);
        judged(Edges.rounded("matter a wedding in 1 sour 4;matter b plain in 1 sour 3;", "spread a;spread b;year;"), -1, 2, 2);
        judged(Edges.rounded(TWO + "led a b;", "spread b;spread b;"), -1, 1, 1);
    }

    @Says("Promise 10: JUDGED, what 0, 1: lines (NONE: none), 2: how many; -2: others.")
    static void withoutARound() {
        judged(Check.told("matter a plain in 1 sour 0;matter b plain in 1 sour 1;"), -1, -1, 1);
        MustardPast x = Edges.rounded("matter a plain in 1 sour 0;", "year;");
        Check.due("no lines", x.round(), 0);
        judged(x, -1, -1, 1);
    }

    @Says("Promise 10: JUDGED, what 0, 1: lines (NONE: none), 2: how many; -2: others.")
    static void others() {
        for (MustardPast x : new MustardPast[] {new MustardPast(), Edges.rounded(TWO, "eat a;year;")}) {
            for (int what : new int[] {-1, -2, 3, 4, 32, 256, Integer.MIN_VALUE, Integer.MAX_VALUE}) {
                Check.due("judged " + what, x.judged(what), -2);
            }
        }
    }
}
