/** Sentence by sentence: CAUSES to LOST, promises 25 to 35. */
public final class LedEdgesTest {
    /** a led to b and c, both led to d, which led to e; f and g stand alone. */
    private static final String SEVEN = Edges.matters(7) + "led a b;led a c;led b d;led c d;led d e;";

    public static void main(String[] args) {
        Edges.run(LedEdgesTest.class);
    }

    private static String everyoneLed(int n) {
        StringBuilder s = new StringBuilder(Edges.matters(n));
        for (char c = 'a'; c < 'a' + n; c++) {
            for (char d = (char) (c + 1); d < 'a' + n; d++) {
                s.append("led " + c + " " + d + ";");
            }
        }
        return s.toString();
    }

    /** The chain told from its end, so that what led to a matter has the higher number. */
    private static String backwards() {
        StringBuilder s = new StringBuilder();
        for (int i = 0; i < 7; i++) {
            s.append("matter " + (char) ('a' + i) + " plain in " + (60 - 10 * i) + " sour 1;");
        }
        for (int i = 0; i < 6; i++) {
            s.append("led " + (char) ('b' + i) + " " + (char) ('a' + i) + ";");
        }
        return s.toString();
    }

    /** c led to a, a led to b: the first one told stands between. */
    private static String firstInBetween() {
        return "matter a plain in 5 sour 1;matter b plain in 9 sour 1;matter c plain in 1 sour 1;led c a;led a b;";
    }

    @Says("==== 3: (By how it is now, nothing else being done.)")
    static void nothingElseIsDone() {
        MustardPast x = Edges.rounded(SEVEN, "spread a;year;");
        Edges.spread(x, 1);
        x.see(1, 3, true);
        String before = Edges.everything(x);
        for (int m = -1; m <= 7; m++) {
            x.causes(m);
            x.fruits(m);
            x.ways(m, 4);
            x.elders(m);
        }
        x.story();
        x.roots();
        x.redeems();
        x.gap();
        x.bare();
        x.sourest();
        x.lost();
        Edges.same("asked", before, x);
    }

    @Says("==== 3: CAUSES of a MATTER: those that led to it, through however many (bits).")
    static void causes() {
        MustardPast x = Check.told(SEVEN);
        int[] want = {0, 1, 1, 7, 15, 0, 0};
        for (int m = 0; m < 7; m++) {
            Check.due("causes " + m, x.causes(m), want[m]);
        }
        x = Check.told(Edges.chain(7));
        MustardPast y = Check.told(backwards());
        for (int m = 0; m < 7; m++) {
            Check.due("of a chain " + m, x.causes(m), (1 << m) - 1);
            Check.due("of a chain told backwards " + m, y.causes(m), 127 & -(2 << m));
        }
        Check.due("through the first one told", Check.told(firstInBetween()).causes(1), 5);
    }

    @Says("Promise 25: CAUSES, as bits; NONE: others.")
    static void othersOfCauses() {
        for (int m : Edges.NO_MATTERS) {
            Check.due("causes " + m, Check.told(SEVEN).causes(m), -1);
        }
        Check.due("one too many", Check.told(Edges.matters(3)).causes(3), -1);
        Check.due("the last one", Check.told(Edges.matters(3)).causes(2), 0);
        Check.due("an empty past", new MustardPast().causes(0), -1);
    }

    @Says("==== 3: FRUITS: those to which it led, likewise (bits).")
    static void fruits() {
        MustardPast x = Check.told(SEVEN);
        int[] want = {30, 24, 24, 16, 0, 0, 0};
        for (int m = 0; m < 7; m++) {
            Check.due("fruits " + m, x.fruits(m), want[m]);
        }
        x = Check.told(Edges.chain(7));
        MustardPast y = Check.told(backwards());
        for (int m = 0; m < 7; m++) {
            Check.due("of a chain " + m, x.fruits(m), 127 & -(2 << m));
            Check.due("of a chain told backwards " + m, y.fruits(m), (1 << m) - 1);
        }
        Check.due("through the first one told", Check.told(firstInBetween()).fruits(2), 3);
    }

    @Says("Promise 26: FRUITS, as bits; NONE: others.")
    static void othersOfFruits() {
        for (int m : Edges.NO_MATTERS) {
            Check.due("fruits " + m, Check.told(SEVEN).fruits(m), -1);
        }
        Check.due("one too many", Check.told(Edges.matters(3)).fruits(3), -1);
        Check.due("the last one", Check.told(Edges.matters(3)).fruits(2), 0);
        Check.due("an empty past", new MustardPast().fruits(0), -1);
    }

    @Says("==== 3: WAYS of two: by how many ways the first one led to the second one.")
    static void ways() {
        MustardPast x = Check.told(SEVEN);
        Check.due("one", x.ways(0, 1), 1);
        Check.due("two", x.ways(0, 3), 2);
        Check.due("two and on", x.ways(0, 4), 2);
        Check.due("none", x.ways(0, 5), 0);
        Check.due("none back", x.ways(3, 0), 0);
        x = Check.told(everyoneLed(7));
        int[] most = {1, 1, 2, 4, 8, 16, 32};
        for (int m = 0; m < 7; m++) {
            Check.due("the most ways " + m, x.ways(0, m), most[m]);
            Check.due("to the last one " + m, x.ways(6 - m, 6), most[m]);
        }
        Check.due("through all", Check.told(Edges.chain(7)).ways(0, 6), 1);
        Check.due("through all, told backwards", Check.told(backwards()).ways(6, 0), 1);
        Check.due("through the first one told", Check.told(firstInBetween()).ways(2, 1), 1);
    }

    @Says("Promise 27: WAYS (the same: 1); NONE: others.")
    static void othersOfWays() {
        MustardPast x = Check.told(SEVEN);
        for (int m = 0; m < 7; m++) {
            Check.due("the same " + m, x.ways(m, m), 1);
            for (int other : Edges.NO_MATTERS) {
                Check.due("ways " + m + " " + other, x.ways(m, other), -1);
                Check.due("ways " + other + " " + m, x.ways(other, m), -1);
            }
        }
        for (int other : Edges.NO_MATTERS) {
            Check.due("both " + other, x.ways(other, other), -1);
        }
        Check.due("one too many", Check.told(Edges.matters(3)).ways(3, 3), -1);
        Check.due("an empty past", new MustardPast().ways(0, 0), -1);
    }

    @Says("==== 3: STORY: the most MATTERS of which each one led to the next.")
    static void stories() {
        Check.due("all seven", Check.told(Edges.chain(7)).story(), 7);
        Check.due("all seven, told backwards", Check.told(backwards()).story(), 7);
        Check.due("all seven among all ways", Check.told(everyoneLed(7)).story(), 7);
        Check.due("four", Check.told(SEVEN).story(), 4);
        Check.due("a story that begins later", Check.told(Edges.matters(6) + "led a b;led c d;led d e;led e f;").story(), 4);
        Check.due("through the first one told", Check.told(firstInBetween()).story(), 3);
        Check.due("alone", Check.told(Edges.matters(7)).story(), 1);
        Check.due("one", Check.told(Edges.matters(1)).story(), 1);
    }

    @Says("Promise 28: STORY (0: nothing).")
    static void noStory() {
        Check.due("an empty past", new MustardPast().story(), 0);
    }

    @Says("==== 3: ROOTS: those that nothing led to (bits).")
    static void roots() {
        Check.due("three", Check.told(SEVEN).roots(), 1 + 32 + 64);
        Check.due("all", Check.told(Edges.matters(7)).roots(), 127);
        Check.due("the first one", Check.told(Edges.chain(7)).roots(), 1);
        Check.due("the last one told", Check.told(backwards()).roots(), 64);
    }

    @Says("Promise 29: ROOTS, as bits.")
    static void noRoots() {
        Check.due("an empty past", new MustardPast().roots(), 0);
    }

    @Says("==== 3: ELDERS of a MATTER: those of an earlier year (bits).")
    static void elders() {
        MustardPast x = Check.told("matter a plain in 5 sour 1;matter b plain in 4 sour 1;matter c plain in 5 sour 1;matter d plain in 6 sour 1;"
                + "matter e plain in 0 sour 1;matter f plain in 99 sour 1;");
        int[] want = {2 + 16, 16, 2 + 16, 1 + 2 + 4 + 16, 0, 31};
        for (int m = 0; m < want.length; m++) {
            Check.due("elders " + m, x.elders(m), want[m]);
        }
        Edges.passed(x, 9);
        Check.due("whatever year it is", x.elders(0), want[0]);
    }

    @Says("Promise 30: ELDERS, as bits; NONE: others.")
    static void othersOfElders() {
        MustardPast x = Check.told(SEVEN);
        for (int m : Edges.NO_MATTERS) {
            Check.due("elders " + m, x.elders(m), -1);
        }
        Check.due("the last one", x.elders(6), 63);
        Check.due("one too many", Check.told(Edges.matters(3)).elders(3), -1);
        Check.due("an empty past", new MustardPast().elders(0), -1);
    }

    @Says("==== 3: REDEEMS: the MATTER, not MEANT, by which, were it so, the most others more were RIGHT; of equal ones the first (if any were).")
    static void redeemsTheMost() {
        MustardPast x = Check.told(SEVEN);
        Check.due("e: a, b, c, d", x.redeems(), 4);
        Edges.spread(x, 1);
        Check.due("a is right by b: c and d are left for e", x.redeems(), 4);
        Edges.spread(x, 2);
        Check.due("d alone is left for e", x.redeems(), 4);
        Edges.spread(x, 3);
        Check.due("none is left", x.redeems(), -1);
        Check.due("a winter, too", Check.told("matter a plain in 1 sour 1;matter b winter in 2 sour 9;led a b;").redeems(), 1);
        Check.due("the first one told", Check.told(backwards()).redeems(), 0);
    }

    @Says("==== 3: REDEEMS: the MATTER, not MEANT, by which, were it so, the most others more were RIGHT; of equal ones the first (if any were).")
    static void redeemsOfEqualOnesTheFirst() {
        MustardPast x = Check.told(Edges.matters(6) + "led a c;led b f;led a d;led b e;");
        Check.due("c, d, e and f redeem one each", x.redeems(), 2);
        Edges.spread(x, 2);
        Check.due("a is right now: e and f", x.redeems(), 4);
        Check.due("others, not itself", Check.told("matter a plain in 1 sour 1;matter b plain in 1 sour 1;matter c plain in 2 sour 1;led b c;").redeems(), 2);
    }

    @Says("Promise 31: REDEEMS; NONE: none.")
    static void redeemsNone() {
        Check.due("an empty past", new MustardPast().redeems(), -1);
        Check.due("nothing led to anything", Check.told(Edges.matters(7)).redeems(), -1);
        Check.due("all are meant", Check.told(Edges.chain(7).replace("sour 1", "sour 0")).redeems(), -1);
        Check.due("all are right", Edges.spread(Check.told(Edges.chain(7)), 6).redeems(), -1);
        Check.due("what is meant is not asked", Check.told("matter a plain in 1 sour 0;matter b plain in 2 sour 1;led a b;").redeems(), -1);
    }

    @Says("==== 3: GAP: the most years between one MATTER and the next one, all put in order by their years.")
    static void gaps() {
        Check.due("the widest", Check.told("matter a plain in 99 sour 1;matter b plain in 0 sour 1;").gap(), 99);
        Check.due("in order by their years", Check.told("matter a plain in 0 sour 1;matter b plain in 99 sour 1;matter c plain in 50 sour 1;").gap(), 50);
        Check.due("the last one", Check.told("matter a plain in 1 sour 1;matter b plain in 2 sour 1;matter c plain in 9 sour 1;").gap(), 7);
        Check.due("the first one", Check.told("matter a plain in 1 sour 1;matter b plain in 8 sour 1;matter c plain in 9 sour 1;").gap(), 7);
        Check.due("two of a year", Check.told("matter a plain in 5 sour 1;matter b plain in 9 sour 1;matter c plain in 5 sour 1;").gap(), 4);
        Check.due("told backwards", Check.told(backwards()).gap(), 10);
    }

    @Says("Promise 32: GAP (0: no two).")
    static void noGap() {
        Check.due("an empty past", new MustardPast().gap(), 0);
        Check.due("one", Check.told("matter a plain in 99 sour 1;").gap(), 0);
        Check.due("all of one year", Check.told("matter a plain in 9 sour 1;matter b plain in 9 sour 1;matter c plain in 9 sour 1;").gap(), 0);
    }

    @Says("==== 3: BARE: winters that are sour (bits).")
    static void bareWinters() {
        MustardPast x = Check.told("matter a winter in 1 sour 1;matter b winter in 1 sour 0;matter c plain in 1 sour 9;matter d battle in 1 sour 9;"
                + "matter e wedding in 1 sour 9;matter f winter in 1 sour 40;matter g winter in 1 sour 9;");
        Check.due("bare", x.bare(), 1 + 32 + 64);
        x.spread(0);
        x.year();
        Check.due("every time", x.bare(), 1 + 32 + 64);
    }

    @Says("Promise 33: BARE, as bits.")
    static void noneIsBare() {
        Check.due("an empty past", new MustardPast().bare(), 0);
        Check.due("no winter", Check.told(Edges.matters(7)).bare(), 0);
        Check.due("right, but sour", Check.told("matter a winter in 1 sour 1;matter b plain in 2 sour 0;led a b;").bare(), 1);
    }

    @Says("==== 3: SOUREST: the one that is; of equal ones the first (if it is sour).")
    static void theSourest() {
        MustardPast x = Check.told("matter a plain in 1 sour 3;matter b plain in 1 sour 4;matter c plain in 1 sour 4;takes 2;");
        Check.due("of equal ones the first", x.sourest(), 1);
        Edges.spread(x, 1);
        Check.due("the other one", x.sourest(), 2);
        Edges.spread(x, 2);
        Check.due("now", x.sourest(), 0);
        Check.due("by one", Check.told("matter a plain in 1 sour 0;matter b plain in 1 sour 1;").sourest(), 1);
        Check.due("the last one", Check.told(Edges.matters(7).replace("in 6 sour 1", "in 6 sour 40")).sourest(), 6);
    }

    @Says("Promise 34: SOUREST; NONE: none is sour.")
    static void noneIsSour() {
        Check.due("an empty past", new MustardPast().sourest(), -1);
        Check.due("none is sour", Check.told(Edges.matters(7).replace("sour 1", "sour 0")).sourest(), -1);
    }

    @Says("==== 3: LOST: MATTERS not RIGHT for which there is no CHEAP (bits).")
    static void lostOnes() {
        Check.due("a winter, and what led to it alone is not", Check.told("matter a plain in 1 sour 1;matter b winter in 2 sour 1;led a b;").lost(), 2);
        Check.due("a winter that led to one is not", Check.told("matter a winter in 1 sour 1;matter b plain in 2 sour 1;led a b;").lost(), 0);
        Check.due("a winter that led to a winter", Check.told("matter a winter in 1 sour 1;matter b winter in 2 sour 1;led a b;").lost(), 3);
        Check.due("right by a winter that is meant", Check.told("matter a winter in 1 sour 1;matter b winter in 2 sour 0;led a b;").lost(), 0);
        Check.due("nothing takes", Check.told(Edges.matters(7) + "takes 0;").lost(), 127);
        Check.due("not by 40", Check.told("matter a plain in 1 sour 40;matter b plain in 1 sour 39;takes 0<coats;").lost(), 1);
        MustardPast x = Check.told("matter a winter in 1 sour 1;matter b plain in 2 sour 20;led a b;takes 20*(age=99);");
        Check.due("in another year", x.lost(), 3);
        x.year();
        Check.due("in that year", x.lost(), 0);
    }

    @Says("Promise 35: LOST, as bits.")
    static void noneIsLost() {
        Check.due("an empty past", new MustardPast().lost(), 0);
        Check.due("all are meant", Check.told(Edges.matters(7).replace("sour 1", "sour 0") + "takes 0;").lost(), 0);
    }
}
