/** Promises 1 to 4: the tape, its tokens, a PAST, a ROUND, their FAULTS. */
public final class TapeTest {
    private static final String TWO = "matter a plain in 1 sour 5;matter b battle in 2 sour 6;";

    public static void main(String[] args) {
        newObject();
        feeding();
        tokens();
        pastFaults();
        lawFaults();
        roundFaults();
        faultChangesNothing();
        pastBeginsAnew();
        Check.end();
    }

    private static void newObject() {
        MustardPast x = new MustardPast();
        int[] counts = {0, 3, 4, 0, 50, 0, 0, 0, 0, 0, 0};
        for (int what = 0; what < counts.length; what++) {
            Check.due("new: count " + what, x.count(what), counts[what]);
        }
        Check.due("new: undo", x.undo(), false);
        for (int mark = 0; mark < 4; mark++) {
            Check.due("new: mark " + mark, x.mark(mark, true), false);
        }
        Check.due("new: an empty past", x.past(), 0);
        Check.due("new: an empty round", x.round(), 0);
    }

    private static void feeding() {
        MustardPast x = new MustardPast();
        Check.due("nothing but zeros", x.feed(0, 0, 0), 0);
        Check.due("all left out: 9, 11, 31, 127, 128, 255", x.feed(0x090B1F7F80FF0100L, -1L, 0x8A8A8A8A8A8A8A8AL), 0);
        Check.due("10, 32 and 126 stay", x.feed(0x0A207E0000000000L, 0, 0x20L), 4);
        Check.due("count 10", x.count(10), 4);
        Check.due("the first wrong token is 126, at 2", x.past(), 1 + 16 * 2);
        Check.due("what reads it takes it", x.count(10), 0);
        Check.due("highest first, a ahead of b ahead of c", x.feed(0x706F7400L, 0x3700L, 0x3B00000000000000L), 5);
        Check.due("pot7;", x.past(), 0);
        Check.due("the pot", x.count(4), 7);
        for (int i = 1; i <= 41; i++) {
            Check.due("blanks " + i, x.feed(0x2020202020202020L, 0x2020202020202020L, 0x2020202020202020L), 24 * i);
        }
        Check.due("beyond 1,000", x.feed(0x2020202020202020L, 0x202020202020203BL, 0x3B3B3B3B3B3B3B3BL), 1000);
        Check.due("and again", x.feed(0x3B3B3B3B3B3B3B3BL, 0, 0), 1000);
        Check.due("its sign 999 is a ;", x.past(), 1 + 16 * 999);
        Check.due("empty then", x.feed(0x20L, 0, 0), 1);
    }

    private static void tokens() {
        good("matter a plain in1sour1;");
        good("matter abcdefgh plain in 1 sour 1;");
        good("pot 0012;");
        good("pot\n\n12 ; knife\n3;");
        good("matter left plain in 1 sour 1;matter coats winter in 2 sour 2;matter age battle in 3 sour 3;"
                + "matter thick wedding in 4 sour 4;led left coats;");
        good("matter a plain in 0 sour 0;matter b plain in 99 sour 40;led a b;knife 1;pot 0;adds 0;takes 0;");
        good("takes 1;adds 20;pot 200;knife 9;");
        bad(1, "matter ^abcdefghi plain in 1 sour 1;");
        bad(1, "pot ^12345;");
        bad(1, "pot ^00012;");
        bad(1, "^matterx plain in 1 sour 1;");
        bad(1, "matter ^A plain in 1 sour 1;");
        bad(1, "matter a^_b plain in 1 sour 1;");
        bad(1, "pot 5^,");
        MustardPast x = Check.told("pot 0012;");
        Check.due("0012", x.count(4), 12);
    }

    private static void pastFaults() {
        bad(1, "^;");
        bad(1, "^king 5;");
        bad(1, "^spread a;");
        bad(1, "pot 1;^year;");
        bad(1, "^5;");
        bad(1, "matter^");
        bad(1, "matter ^;");
        bad(1, "matter ^5");
        for (String word : "matter in sour led knife pot adds takes spread eat year plain battle wedding winter not and or".split(" ")) {
            bad(1, "matter ^" + word + " plain in 1 sour 1;");
        }
        bad(1, "matter a ^king in 1 sour 1;");
        bad(1, "matter a ^left in 1 sour 1;");
        bad(1, "matter a ^in 1 sour 1;");
        bad(1, "matter a plain ^on 1 sour 1;");
        bad(1, "matter a plain in ^x sour 1;");
        bad(1, "matter a plain in ^-1 sour 1;");
        bad(1, "matter a plain in 1 ^sweet 1;");
        bad(1, "matter a plain in 1 sour ^;");
        bad(1, "matter a plain in 1 sour 1^");
        bad(1, "matter a plain in 1 sour 1 \n ^");
        bad(1, "matter a plain in 1 sour 1 ^2;");
        bad(4, "matter a plain in ^100 sour 1;");
        bad(4, "matter a plain in 1 sour ^41;");
        bad(4, "matter a plain in ^9999 sour 99;");
        bad(3, TWO + "matter ^b plain in 1 sour 1;");
        bad(2, "led ^a b;");
        bad(2, TWO + "led a ^c;");
        bad(2, TWO + "led ^c a;");
        bad(1, TWO + "led a ^in;");
        bad(1, TWO + "led ^sour a;");
        bad(1, TWO + "led a ^;");
        bad(1, TWO + "led a b ^b;");
        bad(3, TWO + "led b ^a;");
        bad(3, TWO + "led a ^a;");
        bad(3, TWO + "led a b;led a ^b;");
        bad(3, "matter a plain in 1 sour 5;matter b battle in 1 sour 6;led a ^b;");
        bad(4, "knife ^0;");
        bad(4, "knife ^10;");
        bad(4, "pot ^201;");
        bad(4, "adds ^21;");
        bad(1, "knife ^x;");
        bad(1, "pot ^;");
        bad(1, "adds ^(1);");
        bad(1, "knife 3 ^+1;");
        bad(3, "knife 3;^knife 3;");
        bad(3, "pot 3;adds 1;^pot 201;");
        bad(3, "adds 3;^adds");
        bad(3, "takes 3;^takes in;");
        bad(5, matters(7) + "^matter z plain in 1 sour 1;");
        bad(5, matters(7) + "^matter in;");
        good(matters(7));
    }

    private static String matters(int n) {
        StringBuilder s = new StringBuilder();
        for (int i = 0; i < n; i++) {
            s.append("matter ").append((char) ('a' + i)).append(" plain in ").append(i).append(" sour 1;");
        }
        return s.toString();
    }

    private static void lawFaults() {
        bad(1, "takes ^;");
        bad(1, "takes^");
        bad(1, "takes ^in;");
        bad(1, "takes ^foo;");
        bad(1, "takes ^-1;");
        bad(1, "takes 1 ^1;");
        bad(1, "takes 1+^;");
        bad(1, "takes 1*^*2;");
        bad(1, "takes 1<2^<3;");
        bad(1, "takes 1=2^=3;");
        bad(1, "takes 1<2^=3;");
        bad(1, "takes 1 and^;");
        bad(1, "takes ^and 1;");
        bad(1, "takes 1 ^not 2;");
        bad(1, "takes not^;");
        bad(1, "takes (1^;");
        bad(1, "takes (^);");
        bad(1, "takes 1^);");
        bad(1, "takes ^12345;");
        bad(1, "takes 1^>2;");
        good("takes (1<2)<3;");
        good("takes 1<2 and 3=4 or 5<6;");
        good("takes not not not not 1;");
        good("takes ((((1))));");
        good("takes ((((1))))+((((2))));");
        bad(5, "takes not not not not not ^1;");
        bad(5, "takes not not not not not ^not 1;");
        bad(5, "takes (((((^1)))));");
        bad(5, "takes (((((^left)))));");
        bad(5, "takes (((((^not 1)))));");
        bad(5, "takes (((((^(1))))));");
        bad(5, "takes not (not (not ^(1)));");
        bad(5, "takes ((((1+(^2)))));");
        bad(1, "takes (((((^)))));");
        bad(1, "takes (((((^foo)))));");
        bad(1, "takes (((((^");
        bad(1, "takes not not not not not ^and;");
    }

    private static void roundFaults() {
        badRound(1, "^;");
        badRound(1, "^pot 5;");
        badRound(1, "^a;");
        badRound(1, "spread^");
        badRound(1, "spread ^;");
        badRound(1, "spread ^5;");
        badRound(1, "spread ^winter;");
        badRound(1, "spread a^");
        badRound(1, "spread a ^b;");
        badRound(1, "eat^;");
        badRound(1, "year ^a;");
        badRound(1, "year;^12345");
        badRound(2, "spread ^c;");
        badRound(2, "spread a;eat ^left;");
        badRound(5, "year;".repeat(40) + "^year;");
        badRound(5, "year;".repeat(40) + "^spread c;");
        badRound(5, "spread a;".repeat(40) + "  ^eat");
        badRound(1, "year;".repeat(40) + "^matter");
        badRound(1, "year;".repeat(40) + "^;");
        MustardPast x = Check.told(TWO);
        Check.due("forty lines", Check.round(x, "eat b;".repeat(40) + "\n"), 0);
        Check.due("its lines", x.count(7), 40);
        Check.due("no lines", Check.round(x, " "), 0);
        Check.due("its lines", x.count(7), 0);
    }

    private static void faultChangesNothing() {
        MustardPast x = Check.told(TWO + "pot 60;knife 2;adds 3;takes 4;");
        Check.due("round", Check.round(x, "spread a;year;"), 0);
        x.spread(0);
        x.see(1, 1, true);
        x.mark(2, false);
        Check.due("a fault", Check.past(x, "matter q winter in 9 sour 9;knife 9;pot 9;adds 9;takes 1;led q") % 16, 1);
        Check.due("a fault", Check.round(x, "year;year;year;yea") % 16, 1);
        int[] counts = {2, 2, 3, 0, 58, 7, 1, 2, 1, 1, 0};
        for (int what = 0; what < counts.length; what++) {
            Check.due("behind a fault: count " + what, x.count(what), counts[what]);
        }
        Check.due("the law stays", x.spread(0), 0);
        Check.due("the names stay", Check.round(x, "eat b;"), 0);
        Check.due("the mark stays", x.mark(2, true), true);
    }

    private static void pastBeginsAnew() {
        MustardPast x = Check.told(TWO + "takes 1;led a b;knife 1;adds 1;");
        Check.due("round", Check.round(x, "spread a;year;"), 0);
        x.spread(0);
        x.year();
        x.see(0, 1, false);
        x.mark(1, false);
        Check.due("past", Check.past(x, "matter z wedding in 7 sour 9;"), 0);
        int[] counts = {1, 3, 4, 0, 50, 9, 0, 0, 0, 0, 0};
        for (int what = 0; what < counts.length; what++) {
            Check.due("anew: count " + what, x.count(what), counts[what]);
        }
        Check.due("no mark", x.mark(1, true), false);
        Check.due("nothing undone", x.undo(), false);
        Check.due("without takes: thick", x.spread(0), 6);
        Check.due("nothing led on", x.matter(0, 6), 0);
        Check.due("old names are gone", Check.round(x, "eat a;"), 2 + 16 * 4);
    }

    private static void good(String text) {
        MustardPast x = new MustardPast();
        Check.due("past of " + text, Check.past(x, text), 0);
        Check.due("the tape", x.count(10), 0);
    }

    /** The ^ stands ahead of the wrong token and is no part of the text. */
    private static void bad(int kind, String text) {
        MustardPast x = new MustardPast();
        int place = text.indexOf('^');
        Check.due("past of " + text, Check.past(x, text.replace("^", "")), kind + 16 * place);
        Check.due("the tape", x.count(10), 0);
        Check.due("no matters", x.count(0), 0);
    }

    private static void badRound(int kind, String text) {
        MustardPast x = Check.told(TWO);
        int place = text.indexOf('^');
        Check.due("round of " + text, Check.round(x, text.replace("^", "")), kind + 16 * place);
        Check.due("the tape", x.count(10), 0);
        Check.due("no lines", x.count(7), 0);
    }
}
