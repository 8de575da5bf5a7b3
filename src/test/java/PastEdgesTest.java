/** Sentence by sentence: PAST, NAME, E, FAULTS, promise 3. */
public final class PastEdgesTest {
    private static final String RESERVED =
            "matter in sour led knife pot adds takes spread eat year plain battle wedding winter not and or";
    private static final String TWO = "matter a plain in 1 sour 5;matter b battle in 2 sour 6;";

    public static void main(String[] args) {
        Edges.run(PastEdgesTest.class);
    }

    /** How much one coat takes off one of the year 30 that is 40 sour, the knife being 2. */
    private static void takes(String law, int want) {
        MustardPast x = Check.told("matter a plain in 30 sour 40;pot 200;knife 2;takes " + law + ";");
        Check.due(law, 40 - x.spread(0), want);
    }

    @Says("PAST: any number of")
    static void nothingAtAll() {
        MustardPast x = Check.told(TWO);
        Check.due("an empty tape", x.past(), 0);
        Check.due("is a past without matters", x.count(0), 0);
        x = Check.told(TWO);
        Check.due("blanks", Check.past(x, " \n "), 0);
        Check.due("are a past without matters", x.count(0), 0);
    }

    @Says("PAST: any number of")
    static void linesInAnyOrder() {
        MustardPast x = Check.told("takes 2;pot 9;matter b plain in 2 sour 1;adds 1;matter a plain in 1 sour 6;led a b;knife 4;");
        int[] counts = {2, 4, 1, 0, 9, 7};
        for (int what = 0; what < counts.length; what++) {
            Check.due("count " + what, x.count(what), counts[what]);
        }
    }

    @Says("PAST: any number of")
    static void asManyLinesAsThereCanBe() {
        StringBuilder s = new StringBuilder(Edges.matters(7));
        for (char c = 'a'; c <= 'g'; c++) {
            for (char d = (char) (c + 1); d <= 'g'; d++) {
                s.append("led " + c + " " + d + ";");
            }
        }
        MustardPast x = Check.told(s + "knife 1;pot 1;adds 1;takes 1;");
        int[] led = {126, 124, 120, 112, 96, 64, 0};
        for (int m = 0; m < 7; m++) {
            Check.due("led " + m, x.matter(m, 6), led[m]);
        }
    }

    @Says("PAST: matter: 7 at most, numbered as told")
    static void sevenMatters() {
        MustardPast x = Check.told(Edges.matters(7));
        Check.due("seven", x.count(0), 7);
        for (int m = 0; m < 7; m++) {
            Check.due("as told", x.matter(m, 1), m);
        }
        Edges.fault(5, Edges.matters(7) + "^matter h plain in 1 sour 1;");
    }

    @Says("PAST: matter: 7 at most, numbered as told")
    static void numberedAsToldNotByYear() {
        MustardPast x = Check.told("matter z plain in 9 sour 1;matter a battle in 5 sour 2;matter m winter in 7 sour 3;");
        int[] years = {9, 5, 7};
        for (int m = 0; m < 3; m++) {
            Check.due("year", x.matter(m, 1), years[m]);
            Check.due("sour", x.matter(m, 2), m + 1);
        }
    }

    @Says("PAST: KIND: plain, battle, wedding, winter")
    static void fourKinds() {
        MustardPast x = Check.told("matter a winter in 1 sour 1;matter b wedding in 1 sour 1;matter c battle in 1 sour 1;"
                + "matter d plain in 1 sour 1;");
        for (int m = 0; m < 4; m++) {
            Check.due("kind", x.matter(m, 0), 3 - m);
        }
        for (String other : "matter in sour year left a summer not or".split(" ")) {
            Edges.fault(1, "matter a ^" + other + " in 1 sour 1;");
        }
    }

    @Says("PAST: in the year 0 to 99")
    static void yearsOfMatters() {
        MustardPast x = Check.told("matter a plain in 0 sour 1;matter b plain in 99 sour 1;");
        Check.due("the first", x.matter(0, 1), 0);
        Check.due("the last", x.matter(1, 1), 99);
        Edges.fault(4, "matter a plain in ^100 sour 1;");
        Edges.fault(4, "matter a plain in ^9999 sour 1;");
        Edges.fault(1, "matter a plain in ^-1 sour 1;");
    }

    @Says("PAST: sour 0 to 40")
    static void howSour() {
        MustardPast x = Check.told("matter a plain in 1 sour 0;matter b plain in 1 sour 40;");
        Check.due("not at all", x.matter(0, 2), 0);
        Check.due("the most", x.matter(1, 2), 40);
        Edges.fault(4, "matter a plain in 1 sour ^41;");
        Edges.fault(4, "matter a plain in 1 sour ^9999;");
        Edges.fault(1, "matter a plain in 1 sour ^-1;");
    }

    @Says("PAST: led: two MATTERS told")
    static void ledOfMattersTold() {
        Edges.fine(TWO + "led a b;");
        Edges.fault(2, "led ^a b;" + TWO);
        Edges.fault(2, "matter a plain in 1 sour 5;led a ^b;matter b plain in 2 sour 5;");
        Edges.fault(2, TWO + "led a ^left;");
        Edges.fault(1, TWO + "led ^5 b;");
        Edges.fault(1, TWO + "led a^;");
    }

    @Says("PAST: the second one of a later year than the first one")
    static void ledToALaterYear() {
        Edges.fine("matter a plain in 98 sour 1;matter b plain in 99 sour 1;led a b;");
        Edges.fine("matter a plain in 0 sour 1;matter b plain in 99 sour 1;led a b;");
        Edges.fine("matter b plain in 2 sour 1;matter a plain in 1 sour 1;led a b;");
        Edges.fault(3, "matter a plain in 5 sour 1;matter b plain in 5 sour 1;led a ^b;");
        Edges.fault(3, "matter a plain in 5 sour 1;matter b plain in 4 sour 1;led a ^b;");
        Edges.fault(3, "matter a plain in 5 sour 1;led a ^a;");
    }

    @Says("PAST: each two once")
    static void eachTwoOnce() {
        Edges.fault(3, TWO + "led a b;led a ^b;");
        Edges.fault(3, TWO + "led a b;led b ^a;");
        Edges.fault(3, Edges.matters(3) + "led a b;led b c;led a c;led b ^c;");
        Edges.fine(Edges.matters(3) + "led a b;led b c;led a c;");
    }

    @Says("PAST: knife 1 to 9 (3)")
    static void knives() {
        Check.due("the least", Check.told("knife 1;").count(1), 1);
        Check.due("the most", Check.told("knife 9;").count(1), 9);
        Check.due("without", Check.told("pot 9;").count(1), 3);
        Edges.fault(4, "knife ^0;");
        Edges.fault(4, "knife ^10;");
        Edges.fault(4, "knife ^9999;");
    }

    @Says("PAST: pot 0 to 200 (50)")
    static void pots() {
        Check.due("the least", Check.told("pot 0;").count(4), 0);
        Check.due("the most", Check.told("pot 200;").count(4), 200);
        Check.due("without", Check.told("adds 9;").count(4), 50);
        Edges.fault(4, "pot ^201;");
        Edges.fault(4, "pot ^9999;");
        Edges.fault(1, "pot ^-1;");
    }

    @Says("PAST: adds 0 to 20 (4)")
    static void added() {
        Check.due("the least", Check.told("adds 0;").count(2), 0);
        Check.due("the most", Check.told("adds 20;").count(2), 20);
        Check.due("without", Check.told("pot 9;").count(2), 4);
        Edges.fault(4, "adds ^21;");
        Edges.fault(4, "adds ^9999;");
        Edges.fault(1, "adds ^-1;");
    }

    @Says("PAST: knife, pot, adds, takes: once each")
    static void onceEach() {
        for (String one : "knife pot adds takes".split(" ")) {
            Edges.fault(3, one + " 3;^" + one + " 3;");
            Edges.fault(3, one + " 3;" + TWO + "^" + one + ";");
            for (String other : "knife pot adds takes".split(" ")) {
                if (!one.equals(other)) {
                    Edges.fine(one + " 3;" + other + " 3;");
                }
            }
        }
    }

    @Says("PAST: knife, pot, adds, takes: once each")
    static void onceInEachPast() {
        MustardPast x = new MustardPast();
        for (int i = 1; i <= 9; i++) {
            Check.due("a fault", Check.past(x, "knife 1;pot 1;adds 1;takes 1;^"), 1 + 16 * 29);
            Check.due("a past", Check.past(x, "matter a plain in 1 sour 20;takes " + i + ";adds " + i + ";pot 5" + i + ";knife " + i + ";"), 0);
            int[] counts = {1, i, i, 0, 50 + i};
            for (int what = 0; what < counts.length; what++) {
                Check.due("count " + what, x.count(what), counts[what]);
            }
            Check.due("its law", x.spread(0), 20 - i);
        }
    }

    @Says("TAPE: The TAPE has at most 1,000 signs")
    static void lawsAsLongAsTheTape() {
        MustardPast x = new MustardPast();
        for (int i = 0; i < 4; i++) {
            Check.due("a sum of 481", Check.past(x, "matter a plain in 1 sour 40;takes " + "0+".repeat(480) + (5 + i) + ";"), 0);
            Check.due("it takes", x.spread(0), 35 - i);
            Check.due("a product of 481", Check.past(x, "matter a plain in 1 sour 40;takes " + "1*".repeat(480) + (8 + i) + ";"), 0);
            Check.due("it takes", x.spread(0), 32 - i);
            Check.due("nothing", Check.past(x, "matter a plain in 1 sour 40;"), 0);
            Check.due("without takes: thick", x.spread(0), 37);
        }
        Check.due("tests, as many as there is room for", Check.past(x, "matter a plain in 1 sour 40;takes " + "0 or ".repeat(192) + "7;"), 0);
        Check.due("it takes", x.spread(0), 39);
    }

    @Says("E: Without takes: thick")
    static void nothingOfALongLawIsLeft() {
        MustardPast x = new MustardPast();
        for (int i = 0; i < 2; i++) {
            Check.due("a law that fills the tape", Check.past(x, "takes " + "1+".repeat(496) + "1;"), 0);
        }
        for (int i = 0; i < 24; i++) {
            Check.due("nothing", x.past(), 0);
        }
        for (int i = 0; i < 2; i++) {
            Check.due("a past", Check.past(x, "matter a plain in 1 sour 40;knife 4;"), 0);
            Check.due("thick", x.spread(0), 36);
        }
    }

    @Says("NAME: A NAME is another WORD than matter, in, sour, led, knife, pot, adds, takes, spread, eat, year, the KINDS, not, and, or")
    static void wordsThatAreNoNames() {
        for (String word : RESERVED.split(" ")) {
            Edges.fault(1, "matter ^" + word + " plain in 1 sour 1;");
            Edges.fault(1, TWO + "led ^" + word + " b;");
            Edges.fault(1, TWO + "led a ^" + word + ";");
            Edges.fine("matter " + word + "x plain in 1 sour 1;");
            Edges.fine("matter x" + word.substring(1) + " plain in 1 sour 1;");
        }
    }

    @Says("NAME: A NAME is another WORD than matter, in, sour, led, knife, pot, adds, takes, spread, eat, year, the KINDS, not, and, or")
    static void factsMayBeNames() {
        MustardPast x = Check.told("matter left plain in 1 sour 9;matter coats plain in 2 sour 9;matter age plain in 3 sour 9;"
                + "matter thick plain in 4 sour 9;led left coats;led age thick;takes left-thick;");
        Check.due("in the law they are facts", x.spread(3), 3);
        Check.due("in a round they are names", Check.round(x, "spread left;eat thick;"), 0);
    }

    @Says("NAME: no two are alike")
    static void noTwoAreAlike() {
        Edges.fault(3, TWO + "matter ^a plain in 1 sour 5;");
        Edges.fault(3, TWO + "matter ^b winter in 9 sour 0;");
        Edges.fine(TWO + "matter ab plain in 1 sour 5;matter ba plain in 1 sour 5;matter aa plain in 1 sour 5;matter aaaaaaaa plain in 1 sour 5;"
                + "matter aaaaaaa plain in 1 sour 5;");
    }

    @Says("E: TEST { and TEST or or TEST }, from the left")
    static void fromTheLeft() {
        takes("1 or 0 and 0", 0);
        takes("0 and 0 or 1", 1);
        takes("1 or 1 and 0", 0);
        takes("(1 or (0 and 0))", 1);
    }

    @Says("E: TEST: SUM, or SUM < SUM, or SUM = SUM")
    static void oneComparison() {
        takes("1<2", 1);
        takes("2<2", 0);
        takes("3<2", 0);
        takes("1=2", 0);
        takes("2=2", 1);
        takes("1+2<2*2", 1);
        Edges.fault(1, "takes 1<2^<3;");
        Edges.fault(1, "takes 1<2^=3;");
        Edges.fault(1, "takes 1=2^=3;");
        Edges.fault(1, "takes 1=2^<3;");
        Edges.fine("takes (1<2)=(3<4) and 5<6 or 7=8;");
    }

    @Says("E: SUM: PRODUCT { + or - PRODUCT }")
    static void sums() {
        takes("9-3-2", 4);
        takes("9-(3-2)", 8);
        takes("2+3*4", 14);
        takes("2*3+4", 10);
        Edges.fault(1, "takes 1+^+2;");
        Edges.fault(1, "takes ^+2;");
        Edges.fault(1, "takes 1-^;");
    }

    @Says("E: PRODUCT: PART { * PART }")
    static void products() {
        takes("2*3*3", 18);
        takes("not 0*3", 3);
        takes("3*not 0", 3);
        takes("not (0*3)", 1);
        Edges.fault(1, "takes 1*^*2;");
        Edges.fault(1, "takes ^*2;");
        Edges.fault(1, "takes 1*^-2;");
    }

    @Says("E: PART: a NUMBER, a fact, not PART, ( E )")
    static void parts() {
        takes("0", 0);
        takes("17", 17);
        takes("(17)", 17);
        takes("not 17", 0);
        takes("not not 17", 1);
        takes("(1 or 0)", 1);
        Edges.fault(1, "takes ^;");
        Edges.fault(1, "takes^");
        Edges.fault(1, "takes ^x;");
        Edges.fault(1, "takes ^matter;");
        Edges.fault(1, "takes ^);");
        Edges.fault(1, "takes (^);");
        Edges.fault(1, "takes (1^;");
        Edges.fault(1, "takes (1^");
        Edges.fault(1, "takes 1^);");
        Edges.fault(1, "takes 1 ^2;");
        Edges.fault(1, "takes not^;");
        Edges.fault(1, "takes left ^left;");
    }

    @Says("E: no PART lies within 5 of not and ( )")
    static void withinFour() {
        takes("not not not not 5", 1);
        takes("((((5))))", 5);
        takes("not (not (5))", 1);
        takes("((((left-30))))+((((left-30))))*not not not not 0", 10);
    }

    @Says("E: no PART lies within 5 of not and ( )")
    static void withinFive() {
        Edges.fault(5, "takes not not not not not ^5;");
        Edges.fault(5, "takes (((((^5)))));");
        Edges.fault(5, "takes (((((^left)))));");
        Edges.fault(5, "takes not (not (not ^5));");
        Edges.fault(5, "takes (not (not (^thick)));");
        Edges.fault(5, "takes ((((1+not ^2))));");
        Edges.fault(5, "takes ((((1)*(2)))) and ((((1*(^2)))));");
    }

    @Says("E: left (how sour it is yet)")
    static void factLeft() {
        takes("left-33", 7);
        MustardPast x = Check.told("matter a plain in 1 sour 24;takes left-20;");
        int[] sour = {20, 20};
        for (int want : sour) {
            Check.due("yet", x.spread(0), want);
        }
    }

    @Says("E: coats (how many it has, without this one)")
    static void factCoats() {
        MustardPast x = Check.told("matter a plain in 1 sour 40;takes coats;knife 1;");
        int[] sour = {40, 39, 37, 34};
        for (int want : sour) {
            Check.due("without this one", x.spread(0), want);
        }
        x.eat(0);
        Check.due("none again", x.spread(0), 40);
    }

    @Says("E: age (100 less its year, and the year that is)")
    static void factAge() {
        MustardPast x = Check.told("matter a plain in 99 sour 40;matter b plain in 0 sour 40;takes age*(age<90)+(age=100)+(age=102)*7;");
        Check.due("100 less 99", x.spread(0), 39);
        Check.due("100 less 0", x.spread(1), 39);
        x.year();
        x.year();
        Check.due("and two", x.spread(0), 36);
        Check.due("and two", x.spread(1), 32);
    }

    @Says("E: thick (the knife)")
    static void factThick() {
        takes("thick", 2);
        Check.due("the thickest", Check.told("matter a plain in 1 sour 40;knife 9;takes thick;").spread(0), 31);
        Check.due("a battle's, too", Check.told("matter a battle in 1 sour 40;knife 9;takes thick;").spread(0), 31);
    }

    @Says("E: Of not, and, or, < and = comes 1 or 0; what is not 0 is so")
    static void oneOrNothing() {
        takes("7 and 8", 1);
        takes("4 and 2", 1);
        takes("7 and 0", 0);
        takes("0 and 7", 0);
        takes("0 or 7", 1);
        takes("7 or 7", 1);
        takes("0 or 0", 0);
        takes("not 0", 1);
        takes("not 7", 0);
        takes("(0-1) and (0-2)", 1);
        takes("not (0-1)", 0);
        takes("8192*8192*64 or 0", 0);
        takes("(3<4)+(4=4)+(0 or 2)+(2 and 4)+not 0", 5);
        takes("(4<3)+5", 5);
        takes("(3=4)+5", 5);
        takes("(0 or 0)+5", 5);
        takes("(2 and 0)+5", 5);
        takes("not 2+5", 5);
    }

    @Says("E: ints wrap")
    static void intsWrap() {
        takes("8192*8192*32<0", 1);
        takes("8192*8192*32-1", 20);
        takes("0-8192*8192*32", 0);
        takes("(8192*8192*32-1)+1<0", 1);
        takes("0-8192*8192*32=8192*8192*32", 1);
        takes("8192*8192*64=0", 1);
        takes("8192*8192*64+3", 3);
    }

    @Says("E: Without takes: thick")
    static void withoutTakes() {
        for (int knife = 1; knife <= 9; knife++) {
            Check.due("knife " + knife, Check.told("matter a plain in 1 sour 40;knife " + knife + ";").spread(0), 40 - knife);
        }
        MustardPast x = Check.told("matter a plain in 1 sour 40;takes 20;");
        Check.due("another past", Check.past(x, "matter a plain in 1 sour 40;"), 0);
        Check.due("it has its own", x.spread(0), 37);
    }

    @Says("FAULTS: kind + 16 * the place (from 0) of a token")
    static void places() {
        Edges.fault(1, "^;");
        Edges.fault(1, "    ^;");
        Edges.fault(1, "pot 7;\n\n^;;;");
        Edges.fault(1, " ".repeat(999) + "^;");
    }

    @Says("FAULTS: the end being one at the text's length")
    static void theEnd() {
        Edges.fault(1, "pot^");
        Edges.fault(1, "pot 7^");
        Edges.fault(1, "pot 7 \n  ^");
        Edges.fault(1, "pot 7" + " ".repeat(995) + "^");
        Edges.fault(1, "matter^");
        Edges.fault(1, "matter a^");
        Edges.fault(1, "matter a plain^");
        Edges.fault(1, "matter a plain in^");
        Edges.fault(1, "matter a plain in 1^");
        Edges.fault(1, "matter a plain in 1 sour^");
        Edges.fault(1, "matter a plain in 1 sour 1^");
        Edges.fault(1, TWO + "led^");
        Edges.fault(1, TWO + "led a^");
        Edges.fault(1, TWO + "led a b^");
    }

    @Says("FAULTS: of the first token from the left that is wrong the least")
    static void theFirstFromTheLeft() {
        Edges.fault(4, "pot ^201 knife 99;");
        Edges.fault(2, "led ^a b;pot 201;;");
        Edges.fault(1, "pot^;knife 0;");
        Edges.fault(4, "matter a plain in ^100 sour 41;");
        Edges.fault(3, TWO + "matter ^a summer on 100 sweet 41;");
    }

    @Says("FAULTS: of the first token from the left that is wrong the least")
    static void theLeastOfOneToken() {
        Edges.fault(1, "takes (((((^)))));");
        Edges.fault(1, "takes (((((^foo)))));");
        Edges.fault(1, "takes (((((^12345)))));");
        Edges.fault(1, "takes not not not not not ^and 1;");
        Edges.fault(1, "takes (((((^");
        Edges.fault(1, Edges.matters(7) + "pot ^matter;");
        Edges.fault(1, "pot 3 ^pot 3;");
        Edges.fault(1, Edges.matters(7) + "^matterxyz h plain in 1 sour 1;");
    }

    @Says("FAULTS: 1 it is none, or can't stand there")
    static void kindOne() {
        Edges.fault(1, "^!");
        Edges.fault(1, "^king;");
        Edges.fault(1, "^7;");
        Edges.fault(1, "^a;");
        Edges.fault(1, "^spread a;");
        Edges.fault(1, "^year;");
        Edges.fault(1, "^plain;");
        Edges.fault(1, "matter a plain ^sour 1 in 1;");
        Edges.fault(1, "matter a plain in 1 ^in 1;");
        Edges.fault(1, "matter a plain in ^sour 1;");
        Edges.fault(1, "matter a plain ^1 sour 1;");
        Edges.fault(1, "matter a plain in 1 ^1;");
        Edges.fault(1, "matter a ^1 sour 1;");
        Edges.fault(1, "matter a plain in 1 sour 1 ^matter b plain in 1 sour 1;");
        Edges.fault(1, TWO + "led a b ^a;");
        Edges.fault(1, "pot 3;^;");
        Edges.fault(1, "knife ^thick;");
        Edges.fault(1, "adds ^(1);");
    }

    @Says("FAULTS: 2 a NAME of no MATTER told")
    static void kindTwo() {
        Edges.fault(2, "led ^a a;");
        Edges.fault(2, TWO + "led ^c a;");
        Edges.fault(2, TWO + "led a ^c;");
        Edges.fault(2, TWO + "led ^c d;");
        Edges.fault(2, TWO + "led ^aa b;");
    }

    @Says("FAULTS: 2 a NAME of no MATTER told")
    static void aNameOfThePastAheadIsNotTold() {
        MustardPast x = Check.told(TWO);
        Check.due("the new past has its own", Check.past(x, "led a b;"), 2 + 16 * 4);
        Check.due("behind a fault the old ones stay", Check.round(x, "spread a;"), 0);
    }

    @Says("FAULTS: 4 a NUMBER that is not as told")
    static void kindFour() {
        Edges.fault(4, "knife ^0000;");
        Edges.fault(4, "knife ^0010;");
        Edges.fault(4, "matter a plain in ^0100 sour 1;");
        Edges.fine("knife 0009;matter a plain in 0099 sour 0040;pot 0200;adds 0020;takes 9999;");
    }

    @Says("FAULTS: 5 one too many: the word matter of an eighth")
    static void anEighth() {
        Edges.fault(5, Edges.matters(7) + "^matter");
        Edges.fault(5, Edges.matters(7) + "^matter a");
        Edges.fault(5, Edges.matters(7) + "led a b;pot 7;\n^matter 5;");
        Edges.fault(1, Edges.matters(6) + "matter^");
    }

    @Says("FAULTS: not, or a PART, within 5 others")
    static void notWithinFiveOthers() {
        Edges.fault(5, "takes not not not not not ^not 1;");
        Edges.fault(5, "takes (((((^not 1)))));");
        Edges.fault(5, "takes (((((^(1))))));");
        Edges.fault(5, "takes not not not not not ^(1);");
        Edges.fault(5, "takes not not not not not ^not;");
        Edges.fault(1, "takes not not not not not^;");
    }

    private static MustardPast used() {
        MustardPast x = Edges.rounded(TWO + "led a b;knife 2;pot 60;adds 3;takes 1;", "spread a;year;");
        Edges.spread(x, 0, 1);
        x.year();
        x.see(0, 1, false);
        for (int mark = 0; mark <= 3; mark++) {
            x.mark(mark, false);
        }
        return x;
    }

    @Says("Promise 3: 0, or its FAULT (all stays then)")
    static void allStaysBehindAFault() {
        MustardPast x = used();
        String before = Edges.everything(x);
        String text = "matter q winter in 9 sour 9;matter r winter in 10 sour 9;led q r;knife 9;pot 9;adds 9;takes 20;";
        Check.due("at its last token", Check.past(x, text + ";"), 1 + 16 * text.length());
        Edges.same("behind a fault", before, x);
        Check.due("the law", x.spread(0), 3);
        Check.due("what can be undone", x.undo() && x.undo() && x.undo() && x.undo(), true);
        Check.due("no more", x.undo(), false);
        for (int mark = 0; mark <= 3; mark++) {
            Check.due("mark " + mark, x.mark(mark, true), true);
        }
        Check.due("as sour as on it", x.count(5), 10);
    }

    private static void anew(String text, int... counts) {
        MustardPast x = used();
        Check.due("past", Check.past(x, text), 0);
        for (int what = 0; what < counts.length; what++) {
            Check.due("count " + what, x.count(what), counts[what]);
        }
        Check.due("nothing can be undone", x.undo(), false);
        for (int mark = 0; mark <= 3; mark++) {
            Check.due("no mark " + mark, x.mark(mark, true), false);
        }
        Check.due("nothing seen", x.who(), (1 << counts[0]) - 1);
        Check.due("no round", x.judged(0), -1);
        for (int m = 0; m < counts[0]; m++) {
            Check.due("led to nothing", x.matter(m, 6), 0);
        }
    }

    @Says("FAULTS: Without a FAULT a PAST is the PAST from then on: year 0, all as sour as told, no coats, the pot as told,"
            + " nothing spread, no ROUND, nothing SEEN, nothing can be undone, no MARK is there.")
    static void aPastBeginsAnew() {
        anew("matter z wedding in 7 sour 9;knife 5;pot 70;adds 6;", 1, 5, 6, 0, 70, 9, 0, 0, 0, 0, 0);
        anew(TWO, 2, 3, 4, 0, 50, 11, 0, 0, 0, 0, 0);
        anew("", 0, 3, 4, 0, 50, 0, 0, 0, 0, 0, 0);
    }

    @Says("Promise 3: 0, or its FAULT (all stays then)")
    static void afterAFaultAPastIsReadAnew() {
        MustardPast x = new MustardPast();
        String text = Edges.matters(7) + "led a b;knife 9;pot 9;adds 9;takes 9;";
        Check.due("a fault", Check.past(x, text + ";"), 1 + 16 * text.length());
        Check.due("nothing of it is left", Check.past(x, TWO + "led a b;"), 0);
        int[] counts = {2, 3, 4, 0, 50, 11};
        for (int what = 0; what < counts.length; what++) {
            Check.due("count " + what, x.count(what), counts[what]);
        }
        Check.due("without takes: thick", x.spread(0), 2);
    }
}
