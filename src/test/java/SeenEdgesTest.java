/** Sentence by sentence: SEEN, WHO, TASTE, promises 36 to 38. */
public final class SeenEdgesTest {
    private static final String FOUR = "matter p plain in 1 sour 7;matter q plain in 1 sour 4;matter w winter in 1 sour 4;"
            + "matter z plain in 1 sour 0;takes 3;";

    public static void main(String[] args) {
        Edges.run(SeenEdgesTest.class);
    }

    private static int who(String past, int coats, int sour, boolean less) {
        MustardPast x = Check.told(past);
        Check.due("see", x.see(coats, sour, less), true);
        return x.who();
    }

    @Says("==== 3: (By how it is now, nothing else being done.)")
    static void nothingElseIsDone() {
        MustardPast x = Edges.rounded(FOUR, "spread p;year;");
        Edges.spread(x, 0);
        x.see(1, 3, true);
        String before = Edges.everything(x);
        x.who();
        x.taste();
        x.see(10, 0, true);
        x.see(0, 41, true);
        Edges.same("asked", before, x);
        x.see(0, 0, false);
        Check.due("what is seen", x.count(8), 2);
        Check.due("can't be undone", x.count(9), 1);
        Check.due("the pot", x.count(4), 47);
    }

    @Says("==== 3: SEEN: .. with so many coats more (0 to 9) in this year, whatever is in the pot")
    static void coatsMore() {
        String nine = "matter a plain in 1 sour 1;matter b winter in 1 sour 1;pot 0;takes coats=8;";
        Check.due("eight", who(nine, 8, 0, true), 0);
        Check.due("nine", who(nine, 9, 0, true), 1);
        Check.due("none", who(FOUR, 0, 4, true), 2 + 4 + 8);
        Check.due("one", who(FOUR, 1, 4, true), 15);
        Check.due("one", who(FOUR, 1, 1, true), 2 + 8);
    }

    @Says("==== 3: SEEN: .. with so many coats more (0 to 9) in this year, whatever is in the pot")
    static void inThisYear() {
        MustardPast x = Check.told("matter a plain in 99 sour 5;matter b plain in 98 sour 5;takes age;");
        x.see(1, 3, true);
        Check.due("5 - 1, 5 - 2", x.who(), 2);
        x.year();
        Check.due("5 - 2, 5 - 3", x.who(), 3);
        Edges.spread(x, 0);
        x.see(1, 0, false);
        Check.due("3 - 2, 5 - 3", x.who(), 3);
        Edges.spread(x, 0);
        Check.due("1 - 2", x.who(), 2);
        x.eat(0);
        Check.due("as told again", x.who(), 3);
    }

    @Says("==== 3: SEEN: .. is no more than so sour (0 to 40), or is sourer")
    static void noSourerOrSourer() {
        String told = "matter a plain in 1 sour 0;matter b plain in 1 sour 1;matter c plain in 1 sour 39;matter d plain in 1 sour 40;";
        Check.due("no more than 0", who(told, 0, 0, true), 1);
        Check.due("sourer than 0", who(told, 0, 0, false), 14);
        Check.due("no more than 1", who(told, 0, 1, true), 3);
        Check.due("sourer than 1", who(told, 0, 1, false), 12);
        Check.due("no more than 39", who(told, 0, 39, true), 7);
        Check.due("sourer than 39", who(told, 0, 39, false), 8);
        Check.due("no more than 40", who(told, 0, 40, true), 15);
        Check.due("sourer than 40", who(told, 0, 40, false), 0);
    }

    @Says("==== 3: SEEN: .. 8 at most")
    static void eightAtMost() {
        MustardPast x = Check.told(FOUR);
        for (int i = 1; i <= 8; i++) {
            Check.due("see " + i, x.see(0, 40, true), true);
            Check.due("seen", x.count(8), i);
        }
        Check.due("a ninth", x.see(0, 0, true), false);
        Check.due("eight", x.count(8), 8);
        Check.due("it is not seen", x.who(), 15);
    }

    @Says("Promise 36: SEEN: true; false: others, 8 there are.")
    static void othersOfSee() {
        MustardPast x = Check.told(FOUR);
        for (boolean less : new boolean[] {true, false}) {
            for (int coats : new int[] {-1, 10, 11, 32, Integer.MIN_VALUE, Integer.MAX_VALUE}) {
                Check.due("coats " + coats, x.see(coats, 0, less), false);
            }
            for (int sour : new int[] {-1, 41, 42, 100, Integer.MIN_VALUE, Integer.MAX_VALUE}) {
                Check.due("sour " + sour, x.see(0, sour, less), false);
            }
        }
        Check.due("none is seen", x.count(8), 0);
        Check.due("all", x.who(), 15);
        Check.due("the edges", x.see(0, 0, false) && x.see(9, 40, true) && x.see(0, 40, true) && x.see(9, 0, false), true);
        Check.due("four", x.count(8), 4);
        Check.due("the winter", x.who(), 4);
    }

    @Says("Promise 36: SEEN: true; false: others, 8 there are.")
    static void seenWithoutMatters() {
        MustardPast x = new MustardPast();
        Check.due("see", x.see(0, 0, true), true);
        Check.due("one", x.count(8), 1);
        Check.due("none", x.who(), 0);
    }

    @Says("==== 3: WHO: MATTERS by which all SEEN is so (bits).")
    static void allThatIsSeen() {
        MustardPast x = Check.told(FOUR);
        Check.due("nothing is seen", x.who(), 15);
        x.see(0, 3, false);
        Check.due("sourer than 3", x.who(), 7);
        x.see(1, 1, true);
        Check.due("q", x.who(), 2);
        x.see(0, 3, true);
        Check.due("none, as it is against the first", x.who(), 0);
    }

    @Says("==== 3: WHO: MATTERS by which all SEEN is so (bits).")
    static void theEighthCounts() {
        MustardPast x = Check.told(FOUR);
        for (int i = 1; i <= 7; i++) {
            x.see(0, 40, true);
        }
        x.see(0, 6, false);
        Check.due("p", x.who(), 1);
    }

    @Says("Promise 37: WHO, as bits.")
    static void whoAsBits() {
        Check.due("all seven", Check.told(Edges.matters(7)).who(), 127);
        Check.due("an empty past", new MustardPast().who(), 0);
        Check.due("the last one", who(Edges.matters(7).replace("in 6 sour 1", "in 6 sour 2"), 0, 1, false), 64);
    }

    @Says("==== 3: TASTE: the least number of coats (0 to 9), and how sour (0 to 40), the least by it,"
            + " by which the greater number of WHO that are no sourer, or are, is the least, if that is less than all.")
    static void tasted() {
        Check.due("two and two by a coat: 4, 1, 4, 0", Check.told(FOUR).taste(), 101);
        Check.due("two and two without", Check.told("matter a plain in 1 sour 9;matter b plain in 1 sour 5;matter c plain in 1 sour 5;matter d plain in 1 sour 7;").taste(), 5);
        Check.due("one and two: the least of 1 and 8", Check.told("matter a plain in 1 sour 1;matter b plain in 1 sour 9;matter c plain in 1 sour 9;").taste(), 1);
        Check.due("by 0", Check.told("matter a plain in 1 sour 0;matter b plain in 1 sour 1;").taste(), 0);
        Check.due("by 39", Check.told("matter a plain in 1 sour 39;matter b plain in 1 sour 40;").taste(), 39);
    }

    @Says("==== 3: TASTE: the least number of coats (0 to 9), and how sour (0 to 40), the least by it,"
            + " by which the greater number of WHO that are no sourer, or are, is the least, if that is less than all.")
    static void tastedByNine() {
        String told = "matter a plain in 1 sour 40;matter b winter in 1 sour 40;takes 20*(coats=";
        Check.due("by the first coat", Check.told(told + "0);").taste(), 120);
        Check.due("by the ninth coat", Check.told(told + "8);").taste(), 920);
        Check.due("not by a tenth", Check.told(told + "9);").taste(), -1);
    }

    @Says("==== 3: TASTE: .. the greater number of WHO that are no sourer, or are")
    static void tastedOfWhoIsLeft() {
        MustardPast x = Check.told(FOUR);
        x.see(0, 4, true);
        Check.due("q, w, z: z is no sourer than 0", x.taste(), 0);
        x.see(0, 0, false);
        Check.due("q, w: by a coat 1 and 4", x.taste(), 101);
        x.see(1, 1, true);
        Check.due("q alone", x.taste(), -1);
        x.see(0, 0, true);
        Check.due("none", x.taste(), -1);
    }

    @Says("Promise 38: TASTE, as 100 times the coats and how sour; NONE: none parts them.")
    static void nonePartsThem() {
        Check.due("an empty past", new MustardPast().taste(), -1);
        Check.due("one", Check.told(Edges.matters(1)).taste(), -1);
        Check.due("all alike", Check.told(Edges.matters(7)).taste(), -1);
        Check.due("two winters alike", Check.told("matter a winter in 1 sour 9;matter b winter in 9 sour 9;takes 20;").taste(), -1);
        Check.due("coats part what is alike", Check.told("matter a plain in 1 sour 9;matter b winter in 9 sour 9;takes 1;").taste(), 108);
    }

    @Says("==== 3: SEEN: .. with so many coats more (0 to 9)")
    static void tastedWithTheCoatsTheyHave() {
        MustardPast x = Check.told("matter a plain in 1 sour 9;matter b plain in 1 sour 9;takes coats;");
        Check.due("alike", x.taste(), -1);
        Edges.spread(x, 0);
        Check.due("as sour, but the next coat takes one off a", x.taste(), 108);
    }
}
