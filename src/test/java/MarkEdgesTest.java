/** Sentence by sentence: MARKS, promises 42 and 43. */
public final class MarkEdgesTest {
    private static final String THREE = "matter a plain in 1 sour 9;matter b wedding in 2 sour 9;matter c battle in 3 sour 9;led a b;";

    public static void main(String[] args) {
        Edges.run(MarkEdgesTest.class);
    }

    private static void counts(MustardPast x, int... want) {
        for (int what = 0; what < want.length; what++) {
            Check.due("count " + what, x.count(what), want[what]);
        }
    }

    @Says("==== 3: MARKS 0 to 3 hold how it is")
    static void howItIs() {
        MustardPast x = Check.told(THREE);
        Edges.spread(x, 0, 1, 2);
        x.year();
        Check.due("laid", x.mark(0, false), true);
        x.eat(0);
        Edges.spread(x, 1, 2);
        Edges.passed(x, 3);
        Check.due("back", x.mark(0, true), true);
        counts(x, 3, 3, 4, 1, 42, 6 + 5 + 7, 3, 0, 0, 0, 0);
        int[] sour = {6, 5, 7};
        for (int m = 0; m < 3; m++) {
            Check.due("sour " + m, x.matter(m, 2), sour[m]);
            Check.due("coats " + m, x.matter(m, 3), 1);
        }
    }

    @Says("==== 3: MARKS 0 to 3 hold how it is")
    static void eachItsOwn() {
        MustardPast x = Check.told(THREE);
        for (int mark = 0; mark <= 3; mark++) {
            Check.due("laid", x.mark(mark, false), true);
            x.year();
        }
        for (int mark : new int[] {2, 0, 3, 1, 1, 2}) {
            Check.due("back to " + mark, x.mark(mark, true), true);
            Check.due("the year", x.count(3), mark);
            Check.due("the pot", x.count(4), 50 + 4 * mark);
            x.year();
            x.spread(0);
        }
    }

    @Says("==== 3: MARKS 0 to 3 hold .. the ROUND")
    static void theRound() {
        MustardPast x = Edges.rounded(THREE, "year;".repeat(39) + "eat a;");
        x.mark(0, false);
        Check.due("round", Check.round(x, "eat b;"), 0);
        x.mark(1, false);
        Check.due("no lines", x.round(), 0);
        x.mark(2, false);
        Check.due("forty lines", x.mark(0, true) && x.count(7) == 40, true);
        Check.due("the last one can't be", x.judged(0), 39);
        Check.due("one line", x.mark(1, true) && x.count(7) == 1, true);
        Check.due("it can't be", x.judged(0), 0);
        Check.due("no line", x.mark(2, true) && x.count(7) == 0, true);
        Check.due("none", x.judged(0), -1);
        Check.due("forty again", x.mark(0, true) && x.judged(0) == 39, true);
    }

    @Says("==== 3: MARKS 0 to 3 hold .. what is SEEN")
    static void whatIsSeen() {
        MustardPast x = Check.told("matter a plain in 1 sour 1;matter b plain in 1 sour 5;matter c plain in 1 sour 9;");
        x.mark(0, false);
        x.see(0, 4, true);
        x.mark(1, false);
        x.mark(0, true);
        Check.due("nothing is seen", x.count(8), 0);
        Check.due("all", x.who(), 7);
        for (int i = 0; i < 8; i++) {
            x.see(0, 4, false);
        }
        x.mark(2, false);
        Check.due("one is seen", x.mark(1, true) && x.count(8) == 1, true);
        Check.due("a", x.who(), 1);
        Check.due("eight are seen", x.mark(2, true) && x.count(8) == 8, true);
        Check.due("b and c", x.who(), 6);
        Check.due("a ninth", x.see(0, 4, false), false);
        Check.due("room again", x.mark(1, true) && x.see(0, 0, true), true);
        Check.due("the mark has one yet", x.mark(1, true) && x.count(8) == 1, true);
    }

    @Says("==== 3: MARKS 0 to 3 hold .. what is SEEN")
    static void eachOfWhatIsSeen() {
        MustardPast x = Check.told("matter a plain in 1 sour 1;matter b plain in 1 sour 5;matter c plain in 1 sour 9;takes 4;");
        x.mark(3, false);
        x.see(1, 1, true);
        x.see(0, 1, false);
        x.mark(0, false);
        Check.due("b", x.who(), 2);
        x.mark(3, true);
        x.see(0, 7, false);
        x.see(2, 0, false);
        x.mark(1, false);
        Check.due("c", x.who(), 4);
        Check.due("back to b", x.mark(0, true) && x.who() == 2, true);
        Check.due("back to c", x.mark(1, true) && x.who() == 4, true);
        Check.due("back to all", x.mark(3, true) && x.who() == 7, true);
        Check.due("back to b", x.mark(0, true) && x.who() == 2, true);
    }

    @Says("==== 3: (nothing can be undone when one is gone back to)")
    static void nothingCanBeUndone() {
        MustardPast x = Edges.passed(Check.told(THREE), 16);
        x.mark(0, false);
        Check.due("by laying it nothing is lost", x.count(9), 16);
        Check.due("back", x.mark(0, true), true);
        Check.due("nothing can be undone", x.count(9), 0);
        Check.due("nothing can be undone", x.undo(), false);
        Check.due("the year", x.count(3), 16);
        x.year();
        Check.due("this one can", x.undo(), true);
        Check.due("no more", x.undo(), false);
        Check.due("the year", x.count(3), 16);
    }

    @Says("Promise 42: A MARK is laid (back: gone back to): true; false: none such, nothing is on it (back).")
    static void noneSuch() {
        MustardPast x = Check.told(THREE);
        x.year();
        String before = Edges.everything(x);
        for (int mark : new int[] {-1, -2, 4, 5, 32, 256, Integer.MIN_VALUE, Integer.MAX_VALUE}) {
            Check.due("lay " + mark, x.mark(mark, false), false);
            Check.due("back to " + mark, x.mark(mark, true), false);
        }
        for (int mark = 0; mark <= 3; mark++) {
            Check.due("nothing is on " + mark, x.mark(mark, true), false);
        }
        Edges.same("refused", before, x);
        Check.due("what was done can be undone yet", x.undo(), true);
    }

    @Says("Promise 42: A MARK is laid (back: gone back to): true; false: none such, nothing is on it (back).")
    static void laidAndLaidAnew() {
        MustardPast x = Check.told(THREE);
        Check.due("laid", x.mark(3, false), true);
        for (int mark = 0; mark <= 2; mark++) {
            Check.due("nothing is on " + mark, x.mark(mark, true), false);
        }
        x.year();
        Check.due("laid anew", x.mark(3, false), true);
        x.year();
        Check.due("back", x.mark(3, true), true);
        Check.due("to the later one", x.count(3), 1);
        x.year();
        Check.due("back once more", x.mark(3, true), true);
        Check.due("it stays", x.count(3), 1);
    }

    @Says("Promise 42: A MARK is laid (back: gone back to): true; false: none such, nothing is on it (back).")
    static void laidWithoutMatters() {
        MustardPast x = new MustardPast();
        Check.due("laid", x.mark(0, false), true);
        x.year();
        Check.due("back", x.mark(0, true), true);
        counts(x, 0, 3, 4, 0, 50, 0, 0, 0, 0, 0, 0);
        Check.due("a past", Check.past(x, THREE), 0);
        Check.due("no mark is there", x.mark(0, true), false);
    }

    @Says("Promise 42: A MARK is laid (back: gone back to): true; false: none such, nothing is on it (back).")
    static void theTapeIsNotOnIt() {
        MustardPast x = Check.told(THREE);
        Check.feed(x, "year;");
        x.mark(0, false);
        Check.feed(x, "year;");
        Check.due("back", x.mark(0, true), true);
        Check.due("ten signs", x.count(10), 10);
        Check.due("two lines", x.round() == 0 && x.count(7) == 2, true);
    }

    @Says("Promise 43: What 0: MATTERS, 1: the knife, 2: what adds tells, 3: the year, 4: what is in the pot, 5: how sour all are, together,"
            + " 6: coats of all, 7: lines of the ROUND, 8: SEEN, 9: what can be undone, 10: signs on the TAPE.")
    static void theLeastCounts() {
        counts(Check.told("knife 1;pot 0;adds 0;"), 0, 1, 0, 0, 0, 0, 0, 0, 0, 0, 0);
    }

    @Says("Promise 43: What 0: MATTERS, 1: the knife, 2: what adds tells, 3: the year, 4: what is in the pot, 5: how sour all are, together,"
            + " 6: coats of all, 7: lines of the ROUND, 8: SEEN, 9: what can be undone, 10: signs on the TAPE.")
    static void theMostCounts() {
        MustardPast x = Edges.rounded(Edges.matters(7).replace("sour 1", "sour 40") + "knife 9;pot 200;adds 20;takes 0;", "year;".repeat(40));
        Edges.passed(x, 18);
        Edges.spread(x, 0, 1, 2, 3, 4, 5, 6, 0, 6);
        Edges.passed(x, 5);
        for (int i = 0; i < 9; i++) {
            x.see(0, 40, true);
        }
        for (int i = 0; i < 42; i++) {
            x.feed(0x2020202020202020L, 0x2020202020202020L, 0x2020202020202020L);
        }
        counts(x, 7, 9, 20, 23, 200, 280, 9, 40, 8, 16, 1000);
    }

    @Says("Promise 43: What 0: MATTERS, 1: the knife, 2: what adds tells, 3: the year, 4: what is in the pot, 5: how sour all are, together,"
            + " 6: coats of all, 7: lines of the ROUND, 8: SEEN, 9: what can be undone, 10: signs on the TAPE.")
    static void countsFollow() {
        MustardPast x = Check.told(THREE);
        Edges.spread(x, 2, 2, 1);
        counts(x, 3, 3, 4, 0, 35, 9 + 6 + 3, 3, 0, 0, 3, 0);
        x.year();
        counts(x, 3, 3, 4, 1, 39, 9 + 5 + 4, 3, 0, 0, 4, 0);
        x.eat(2);
        counts(x, 3, 3, 4, 1, 39, 9 + 5 + 9, 1, 0, 0, 5, 0);
        x.undo();
        counts(x, 3, 3, 4, 1, 39, 9 + 5 + 4, 3, 0, 0, 4, 0);
        Check.due("fewer matters", Check.past(x, "matter z plain in 1 sour 2;"), 0);
        counts(x, 1, 3, 4, 0, 50, 2, 0, 0, 0, 0, 0);
    }

    @Says("Promise 43: NONE for another what.")
    static void anotherWhat() {
        for (MustardPast x : new MustardPast[] {new MustardPast(), Check.told(THREE)}) {
            for (int what : new int[] {-1, -2, 11, 12, 32, 256, Integer.MIN_VALUE, Integer.MAX_VALUE}) {
                Check.due("count " + what, x.count(what), -1);
            }
        }
    }
}
