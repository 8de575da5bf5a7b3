/** Sentence by sentence: how long an object is used, TAPE, TOKENS, promises 1 and 2. */
public final class TapeEdgesTest {
    private static final long BLANKS = 0x2020202020202020L;
    private static final long SEMIS = 0x3B3B3B3B3B3B3B3BL;

    public static void main(String[] args) {
        Edges.run(TapeEdgesTest.class);
    }

    private static MustardPast blanks(int n) {
        MustardPast x = new MustardPast();
        Check.feed(x, " ".repeat(n));
        return x;
    }

    @Says("What it is: An object is used for at most 512 calls after it has been made")
    static void fiveHundredAndTwelveCalls() {
        MustardPast x = new MustardPast();
        String text = "matter a plain in 0 sour 40;knife 1;pot 200;adds 20;takes 0;";
        Check.due("three calls and one", Check.past(x, text), 0);
        for (int call = 5; call < 512; call++) {
            if (call % 10 == 0) {
                Check.due("year", x.year(), 0);
            } else {
                Check.due("spread", x.spread(0), 40);
            }
        }
        Check.due("the last one of 512", x.matter(0, 3), 456);
    }

    @Says("What it is: An object is used for at most 512 calls after it has been made")
    static void fiveHundredYears() {
        MustardPast x = Check.told("matter a plain in 99 sour 1;pot 0;adds 1;");
        Edges.passed(x, 505);
        Check.due("the year", x.count(3), 505);
        Check.due("the pot", x.count(4), 200);
        Check.due("what can be undone", x.count(9), 16);
    }

    @Says("TAPE: The TAPE has at most 1,000 signs")
    static void aThousandSigns() {
        MustardPast x = blanks(998);
        Check.due("count", x.count(10), 998);
        Check.due("999", x.feed(0x20, 0, 0), 999);
        Check.due("1,000", x.feed(0, 0x20, 0), 1000);
        Check.due("no more", x.feed(0, 0, 0x20), 1000);
        Check.due("count", x.count(10), 1000);
    }

    @Says("TAPE: The TAPE has at most 1,000 signs")
    static void theThousandthSignIsRead() {
        MustardPast x = blanks(999);
        x.feed(0x3B, 0, 0);
        Check.due("a ; at 999", x.past(), 1 + 16 * 999);
    }

    @Says("TAPE: The TAPE has at most 1,000 signs")
    static void aPastOfAThousandSigns() {
        MustardPast x = new MustardPast();
        Check.feed(x, "pot 7;" + " ".repeat(982) + "knife 2;adds5;");
        Check.due("what is beyond is not read: the end is at 1,000", x.past(), 1 + 16 * 1000);
        x = new MustardPast();
        Check.feed(x, "pot 7;" + " ".repeat(986) + "knife 2;9");
        Check.due("its last sign is the last ;", x.past(), 0);
        Check.due("the knife", x.count(1), 2);
    }

    @Says("TAPE: 10 and 32 .. 126")
    static void whichSigns() {
        for (int sign = 0; sign < 256; sign++) {
            long word = sign * 0x0101010101010101L;
            boolean stays = sign == 10 || sign >= 32 && sign <= 126;
            MustardPast x = new MustardPast();
            Check.due("sign " + sign, x.feed(word, word, word), stays ? 24 : 0);
            Check.due("count of sign " + sign, x.count(10), stays ? 24 : 0);
        }
    }

    @Says("TAPE: what reads it takes it: it is empty then")
    static void readAsAPast() {
        MustardPast x = new MustardPast();
        Check.due("fine", Check.past(x, "pot 7;"), 0);
        Check.due("empty", x.count(10), 0);
        Check.due("the next one begins at 0", Check.past(x, "pot 201;"), 4 + 16 * 4);
        Check.due("empty behind a fault, too", x.count(10), 0);
        Check.due("so nothing is read twice", x.past(), 0);
    }

    @Says("TAPE: what reads it takes it: it is empty then")
    static void readAsARound() {
        MustardPast x = new MustardPast();
        Check.due("fine", Check.round(x, "year;"), 0);
        Check.due("empty", x.count(10), 0);
        Check.due("a fault", Check.round(x, "year"), 1 + 16 * 4);
        Check.due("empty behind a fault, too", x.count(10), 0);
    }

    @Says("TAPE: what reads it takes it: it is empty then")
    static void aFullTapeIsTaken() {
        MustardPast x = blanks(1000);
        Check.due("blanks alone are a past", x.past(), 0);
        Check.due("empty", x.count(10), 0);
        Check.due("and it takes signs again", x.feed(SEMIS, 0, 0), 8);
    }

    @Says("TOKENS: each as long as can be")
    static void asLongAsCanBe() {
        Edges.fault(1, "^matterx plain in 1 sour 1;");
        Edges.fault(1, "^pott 5;");
        Edges.fault(4, "pot ^2010;");
        Edges.fault(1, "matter a plain ^insour 1;");
        Edges.fault(1, "takes 1 ^andor 1;");
        Edges.fine("matter matterx plain in 1 sour 1;");
    }

    @Says("TOKENS: blanks (10, 32) between where one likes")
    static void blanksWhereOneLikes() {
        Edges.fine("\n \nmatter\na\n\nplain  in\n1 sour\n 1\n;\n\ntakes\n(\n1\n+ 2 )\n* not\n0 ;\n");
        Edges.fine("matter a plain in1sour1;pot5;takes(1+2)*not(0);");
        Edges.fault(4, "\n \npot \n ^201;");
    }

    @Says("TOKENS: blanks (10, 32) between where one likes")
    static void blanksPart() {
        Edges.fault(1, "^mat ter a plain in 1 sour 1;");
        Edges.fault(1, "pot 1 ^2;");
        Edges.fault(1, "pot 1\n^2;");
    }

    @Says("TOKENS: WORDS (letters a .. z, 8 at most)")
    static void eightLetters() {
        Edges.fine("matter abcdefgh plain in 1 sour 1;");
        Edges.fine("matter zzzzzzzz plain in 1 sour 1;matter zzzzzzza plain in 1 sour 1;matter azzzzzzz plain in 1 sour 1;");
        Edges.fault(3, "matter zzzzzzzz plain in 1 sour 1;matter ^zzzzzzzz plain in 1 sour 1;");
    }

    @Says("TOKENS: All else (a longer WORD or NUMBER, too, at its first sign) is none")
    static void nineLetters() {
        Edges.fault(1, "matter ^abcdefghi plain in 1 sour 1;");
        Edges.fault(1, "matter ^" + "a".repeat(40) + " plain in 1 sour 1;");
        Edges.fault(1, "^matterxyz");
        Edges.roundFault(1, Edges.matters(1), "spread ^aaaaaaaaa;");
    }

    @Says("TOKENS: WORDS (letters a .. z, 8 at most)")
    static void otherLetters() {
        Edges.fault(1, "^Matter a plain in 1 sour 1;");
        Edges.fault(1, "matter ^A plain in 1 sour 1;");
        Edges.fault(1, "matter ^Z plain in 1 sour 1;");
        Edges.fault(1, "matter a^A plain in 1 sour 1;");
        Edges.fault(1, "matter a^1 plain in 1 sour 1;");
        Edges.fault(1, "matter a^_ plain in 1 sour 1;");
        Edges.fault(1, "matter ^`a plain in 1 sour 1;");
        Edges.fault(1, "matter ^{a plain in 1 sour 1;");
    }

    @Says("TOKENS: NUMBERS (1 to 4 digits; a letter may stand right behind)")
    static void fourDigits() {
        Edges.fine("pot 0;");
        Check.due("four digits", Check.told("pot 0007;").count(4), 7);
        Edges.fine("takes 9999;");
        Edges.fine("matter a plain in 0099sour 0040;");
        Edges.fault(4, "pot ^9999;");
    }

    @Says("TOKENS: NUMBERS (1 to 4 digits; a letter may stand right behind)")
    static void aLetterBehind() {
        Edges.fine("matter a plain in 5sour 6;");
        Edges.fine("takes 1and 2or 3;");
        Edges.fault(1, "pot 5^x;");
        Edges.fault(4, "pot ^999x;");
    }

    @Says("TOKENS: All else (a longer WORD or NUMBER, too, at its first sign) is none")
    static void fiveDigits() {
        Edges.fault(1, "pot ^00007;");
        Edges.fault(1, "pot ^10000;");
        Edges.fault(1, "takes ^12345;");
        Edges.fault(1, "takes 1+^" + "9".repeat(50) + ";");
        Edges.fault(1, "pot ^4294967303;");
    }

    @Says("TOKENS: the signs ( ) < = + - * ;")
    static void everySignBehindANumber() {
        for (char sign = 33; sign <= 126; sign++) {
            int want = 1 + 16 * 7;
            if (sign >= '0' && sign <= '9' || "<=+-*".indexOf(sign) >= 0) {
                want = 0;
            } else if (sign == ';') {
                want = 1 + 16 * 8;
            }
            String text = "takes 1" + sign + "1;";
            Check.due(text, Check.past(new MustardPast(), text), want);
        }
    }

    @Says("TOKENS: All else (a longer WORD or NUMBER, too, at its first sign) is none")
    static void everySignAtTheBeginning() {
        for (char sign = 33; sign <= 126; sign++) {
            Check.due("past of " + sign, Check.past(new MustardPast(), " " + sign), 1 + 16);
            Check.due("round of " + sign, Check.round(new MustardPast(), " " + sign), 1 + 16);
        }
    }

    @Says("Promise 1: Nothing.")
    static void aNewObject() {
        MustardPast x = new MustardPast();
        int[] counts = {0, 3, 4, 0, 50, 0, 0, 0, 0, 0, 0};
        for (int what = 0; what < counts.length; what++) {
            Check.due("count " + what, x.count(what), counts[what]);
        }
        Check.due("undo", x.undo(), false);
        for (int mark = 0; mark <= 3; mark++) {
            Check.due("mark " + mark, x.mark(mark, true), false);
        }
        Check.due("judged 0", x.judged(0), -1);
        Check.due("judged 1", x.judged(1), -1);
        Check.due("judged 2", x.judged(2), 0);
    }

    @Says("Promise 1: Nothing.")
    static void aNewObjectHasNoMatters() {
        MustardPast x = new MustardPast();
        for (int m : new int[] {-1, 0, 1, 6, 7}) {
            int[] none = {x.matter(m, 2), x.spread(m), x.eat(m), x.wants(m), x.cost(m), x.later(m, 0), x.again(m), x.heals(m),
                x.causes(m), x.fruits(m), x.ways(m, m), x.elders(m), x.chance(m, 1, 5), x.cheap(m, 0) + 1, x.cheap(m, 1) + 1};
            for (int i = 0; i < none.length; i++) {
                Check.due("answer " + i + " of " + m, none[i], -1);
            }
        }
    }

    @Says("Promise 1: Nothing.")
    static void aNewObjectByWhatIsAskedOfAll() {
        MustardPast x = new MustardPast();
        int[] none = {x.easiest(), x.redeems(), x.sourest(), x.taste()};
        for (int i = 0; i < none.length; i++) {
            Check.due("none " + i, none[i], -1);
        }
        int[] zero = {x.meant(), x.right(), x.most(200, 0), x.most(200, 1), x.most(200, 2), x.all(), x.lacks(), x.fills(50),
            x.dinners(60), x.story(), x.roots(), x.gap(), x.bare(), x.lost(), x.who(), x.years(0, 99, 0), x.years(0, 99, 1)};
        for (int i = 0; i < zero.length; i++) {
            Check.due("zero " + i, zero[i], 0);
        }
        Check.due("the pot of the years", x.years(9999, 2, 2), 58);
        Check.due("a year", x.year(), 0);
    }

    @Says("Promise 2: Up to 24 signs come behind the TAPE")
    static void behindTheTape() {
        MustardPast x = new MustardPast();
        Check.due("none", x.feed(0, 0, 0), 0);
        Check.due("one", x.feed(0, 0, 'p'), 1);
        Check.due("behind it", x.feed(0x6F74203700000000L, 0, 0), 5);
        Check.due("behind these", x.feed(0, 0x3B, 0), 6);
        Check.due("pot 7;", x.past(), 0);
        Check.due("the pot", x.count(4), 7);
        Check.due("24", x.feed(BLANKS, BLANKS, BLANKS), 24);
        Check.due("48", x.feed(SEMIS, SEMIS, SEMIS), 48);
        Check.due("the second 24", x.past(), 1 + 16 * 24);
    }

    @Says("Promise 2: the bytes of a, b, c, of each the highest first")
    static void eachByteInItsPlace() {
        for (int place = 0; place < 24; place++) {
            MustardPast x = new MustardPast();
            Check.feed(x, " ".repeat(place) + ";" + " ".repeat(23 - place));
            Check.due("a ; as byte " + place, x.past(), 1 + 16 * place);
        }
    }

    @Says("Promise 2: others than 10 and 32 .. 126, and what is beyond 1,000, are left out")
    static void leftOutInBetween() {
        MustardPast x = new MustardPast();
        Check.due("pot 7; among others", x.feed(0x70006F097480200BL, 0xFF37007F1F8A3BFFL, -1L), 6);
        Check.due("they leave no place", x.past(), 0);
        Check.due("the pot", x.count(4), 7);
    }

    @Says("Promise 2: others than 10 and 32 .. 126, and what is beyond 1,000, are left out")
    static void beyondAThousand() {
        MustardPast x = blanks(992);
        Check.due("eight of 24", x.feed(SEMIS, BLANKS, BLANKS), 1000);
        Check.due("the first eight", x.past(), 1 + 16 * 992);
        x = blanks(1000);
        Check.due("none of 24", x.feed(SEMIS, SEMIS, SEMIS), 1000);
        Check.due("none of them is read", x.past(), 0);
    }

    @Says("Promise 2: others than 10 and 32 .. 126, and what is beyond 1,000, are left out")
    static void whatIsLeftOutTakesNoRoom() {
        MustardPast x = blanks(999);
        Check.due("nothing came", x.feed(-1L, -1L, -1L), 999);
        Check.due("the last one of 24", x.feed(-1L, 0, 0x3B), 1000);
        Check.due("at 999", x.past(), 1 + 16 * 999);
    }

    @Says("Promise 2: how many there are")
    static void howManyThereAre() {
        MustardPast x = new MustardPast();
        for (int i = 1; i <= 50; i++) {
            Check.due("feed " + i, x.feed(BLANKS, BLANKS, BLANKS), Math.min(1000, 24 * i));
        }
    }
}
