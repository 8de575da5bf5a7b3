/** Sentence by sentence: WANTS, COST, CHEAP, MOST, ALL, LACKS, EASIEST, promises 13 to 19. */
public final class CostEdgesTest {
    private static final String FIVE = "matter p plain in 5 sour 7;matter b battle in 10 sour 5;matter w wedding in 20 sour 9;"
            + "matter s winter in 30 sour 4;matter z winter in 40 sour 0;led p b;led b w;led p s;knife 2;takes 3;";

    public static void main(String[] args) {
        Edges.run(CostEdgesTest.class);
    }

    private static void most(MustardPast x, int mustard, int many, int much, int which) {
        Check.due("how many by " + mustard, x.most(mustard, 0), many);
        Check.due("how much by " + mustard, x.most(mustard, 1), much);
        Check.due("which by " + mustard, x.most(mustard, 2), which);
    }

    private static void cheap(MustardPast x, int matter, int much, int which) {
        Check.due("how much for " + matter, x.cheap(matter, 0), much);
        Check.due("by which for " + matter, x.cheap(matter, 1), which);
    }

    @Says("==== 3: (By how it is now, nothing else being done.)")
    static void nothingElseIsDone() {
        MustardPast x = Edges.rounded(FIVE + "pot 30;", "spread p;year;");
        Edges.spread(x, 0, 1, 2);
        x.see(1, 3, true);
        String before = Edges.everything(x);
        for (int m = -1; m <= 5; m++) {
            x.wants(m);
            x.cost(m);
            x.cheap(m, 0);
            x.cheap(m, 1);
        }
        for (int what = -1; what <= 3; what++) {
            x.most(200, what);
        }
        x.all();
        x.lacks();
        x.easiest();
        Edges.same("asked", before, x);
    }

    @Says("==== 3: WANTS of a MATTER: how many coats, one behind the other in this year (0 to 40), whatever is in the pot, make it MEANT.")
    static void fortyCoats() {
        Check.due("by 40", Check.told("matter a plain in 1 sour 40;takes 1;").wants(0), 40);
        Check.due("by 39", Check.told("matter a plain in 1 sour 39;takes 1;").wants(0), 39);
        Check.due("not by 40, as the first one takes nothing", Check.told("matter a plain in 1 sour 40;takes 0<coats;").wants(0), -1);
        Check.due("by 40, though the first one takes nothing", Check.told("matter a plain in 1 sour 39;takes 0<coats;").wants(0), 40);
        Check.due("by the 40th alone", Check.told("matter a plain in 1 sour 20;takes 20*(coats=39);").wants(0), 40);
        Check.due("by a 41st alone", Check.told("matter a plain in 1 sour 20;takes 20*(coats=40);").wants(0), -1);
    }

    @Says("==== 3: WANTS of a MATTER: how many coats, one behind the other in this year (0 to 40), whatever is in the pot, make it MEANT.")
    static void noCoats() {
        Check.due("it is meant", Check.told("matter a plain in 1 sour 0;takes 0;").wants(0), 0);
        Check.due("a winter that is meant", Check.told("matter a winter in 1 sour 0;").wants(0), 0);
        Check.due("a winter that is sour", Check.told("matter a winter in 1 sour 1;takes 20;").wants(0), -1);
        Check.due("nothing takes", Check.told("matter a plain in 1 sour 1;takes 0;").wants(0), -1);
    }

    @Says("==== 3: WANTS of a MATTER: how many coats, one behind the other in this year (0 to 40), whatever is in the pot, make it MEANT.")
    static void oneBehindTheOther() {
        MustardPast x = Check.told("matter a plain in 1 sour 15;takes coats+1;knife 1;");
        for (int want = 5; want >= 0; want--) {
            Check.due("1, 2, 3, 4, 5", x.wants(0), want);
            x.spread(0);
        }
        x = Check.told("matter a plain in 1 sour 31;takes left-left*(left<8)+(left<8)*2;");
        Check.due("20, 11", x.wants(0), 2);
    }

    @Says("==== 3: WANTS of a MATTER: how many coats, one behind the other in this year (0 to 40), whatever is in the pot, make it MEANT.")
    static void inThisYear() {
        MustardPast x = Check.told("matter a wedding in 99 sour 12;takes age;pot 200;");
        Check.due("one by one", x.wants(0), 12);
        x.year();
        Check.due("two by two", x.wants(0), 6);
        Edges.passed(x, 10);
        Check.due("at once", x.wants(0), 1);
    }

    @Says("==== 3: WANTS of a MATTER: how many coats, one behind the other in this year (0 to 40), whatever is in the pot, make it MEANT.")
    static void whateverIsInThePot() {
        MustardPast x = Check.told("matter a battle in 1 sour 40;takes 2;pot 0;knife 9;");
        Check.due("wants", x.wants(0), 20);
        Check.due("costs", x.cost(0), 360);
    }

    @Says("Promise 13: WANTS; NONE: others, not by 40.")
    static void othersOfWants() {
        MustardPast x = Check.told(FIVE);
        int[] want = {3, 2, 3, -1, 0, -1, -1};
        for (int m = 0; m < want.length; m++) {
            Check.due("wants " + m, x.wants(m), want[m]);
        }
        for (int m : Edges.NO_MATTERS) {
            Check.due("wants " + m, x.wants(m), -1);
        }
    }

    @Says("==== 3: COST: what these take.")
    static void whatTheyTake() {
        MustardPast x = Check.told("matter a plain in 1 sour 40;matter b battle in 1 sour 40;matter c wedding in 1 sour 40;matter d plain in 1 sour 0;"
                + "takes 1;knife 9;");
        int[] want = {360, 720, 360, 0};
        for (int m = 0; m < want.length; m++) {
            Check.due("cost " + m, x.cost(m), want[m]);
        }
    }

    @Says("Promise 14: COST; NONE: others, not by 40.")
    static void othersOfCost() {
        MustardPast x = Check.told(FIVE);
        int[] want = {6, 8, 6, -1, 0, -1, -1};
        for (int m = 0; m < want.length; m++) {
            Check.due("cost " + m, x.cost(m), want[m]);
        }
        for (int m : Edges.NO_MATTERS) {
            Check.due("cost " + m, x.cost(m), -1);
        }
        Check.due("not by 40", Check.told("matter a plain in 1 sour 40;takes 0<coats;").cost(0), -1);
        Check.due("by 40", Check.told("matter a plain in 1 sour 39;takes 0<coats;").cost(0), 120);
    }

    @Says("==== 3: CHEAP of a MATTER: the least COST, of it or of one to which it led, through however many, so that it is RIGHT by that one alone")
    static void throughHoweverMany() {
        MustardPast x = Check.told(Edges.chain(7).replace("plain in 6 sour 1", "plain in 6 sour 2").replace("plain in 5", "winter in 5")
                .replaceAll("plain in ([0-4]) sour 1", "plain in $1 sour 40") + "takes 1;knife 1;");
        for (int m = 0; m < 7; m++) {
            cheap(x, m, 2, 6);
        }
    }

    @Says("==== 3: CHEAP of a MATTER: the least COST, of it or of one to which it led, through however many, so that it is RIGHT by that one alone")
    static void notByWhatLedToIt() {
        MustardPast x = Check.told("matter a plain in 1 sour 1;matter b plain in 2 sour 9;matter c plain in 3 sour 1;led a b;takes 1;knife 1;");
        cheap(x, 0, 1, 0);
        cheap(x, 1, 9, 1);
        cheap(x, 2, 1, 2);
    }

    @Says("==== 3: CHEAP .. (0: it is RIGHT)")
    static void itIsRight() {
        MustardPast x = Check.told(Edges.chain(3) + "takes 1;");
        cheap(x, 0, 3, 0);
        Edges.spread(x, 2);
        for (int m = 0; m < 3; m++) {
            cheap(x, m, 0, m);
        }
        x = Check.told("matter a winter in 1 sour 9;matter b winter in 2 sour 0;led a b;");
        cheap(x, 0, 0, 0);
        cheap(x, 1, 0, 1);
    }

    @Says("==== 3: CHEAP .. by which (of equal ones the first)")
    static void ofEqualOnesTheFirst() {
        String told = "matter c plain in 3 sour 5;matter b plain in 2 sour 5;matter a plain in 1 sour 5;led a b;led b c;takes 1;knife 1;";
        MustardPast x = Check.told(told);
        cheap(x, 2, 5, 0);
        cheap(x, 1, 5, 0);
        x.spread(1);
        cheap(x, 2, 4, 1);
        x.spread(0);
        cheap(x, 2, 4, 0);
        x.spread(2);
        x.spread(2);
        cheap(x, 2, 3, 2);
    }

    @Says("Promise 15: CHEAP, what 0: how much, 1: by which (itself, if it is RIGHT); -2: others, by none.")
    static void cheapByNone() {
        MustardPast x = Check.told("matter a winter in 1 sour 1;matter b winter in 2 sour 1;matter c plain in 3 sour 1;led a b;takes 0;");
        for (int m = 0; m < 3; m++) {
            cheap(x, m, -2, -2);
        }
        x = Check.told("matter a winter in 1 sour 1;matter b winter in 2 sour 1;matter c plain in 3 sour 1;led a b;led b c;");
        cheap(x, 0, 3, 2);
        cheap(x, 1, 3, 2);
    }

    @Says("Promise 15: CHEAP, what 0: how much, 1: by which (itself, if it is RIGHT); -2: others, by none.")
    static void othersOfCheap() {
        MustardPast x = Check.told(FIVE);
        for (int what : new int[] {-1, -2, 2, 3, 32, Integer.MIN_VALUE, Integer.MAX_VALUE}) {
            for (int m = 0; m < 5; m++) {
                Check.due("cheap " + m + " " + what, x.cheap(m, what), -2);
            }
        }
        for (int m : Edges.NO_MATTERS) {
            cheap(x, m, -2, -2);
        }
        cheap(x, 5, -2, -2);
        cheap(x, 4, 0, 4);
        Check.due("an empty past", new MustardPast().cheap(0, 0), -2);
    }

    @Says("==== 3: MOST by so much mustard (0 to 200): the most MATTERS that are MEANT then, those that are, too")
    static void byNoneAndByAll() {
        MustardPast x = Check.told(FIVE);
        most(x, 0, 1, 0, 16);
        most(x, 5, 1, 0, 16);
        most(x, 6, 2, 6, 17);
        most(x, 200, 4, 20, 23);
        x = Check.told("matter a plain in 1 sour 40;matter b plain in 1 sour 40;takes 2;knife 5;");
        most(x, 99, 0, 0, 0);
        most(x, 100, 1, 100, 1);
        most(x, 199, 1, 100, 1);
        most(x, 200, 2, 200, 3);
        x = Check.told("matter a battle in 1 sour 40;takes 1;knife 9;");
        most(x, 200, 0, 0, 0);
    }

    @Says("==== 3: MOST by so much mustard (0 to 200): the most MATTERS that are MEANT then, those that are, too")
    static void thoseThatAre() {
        MustardPast x = Check.told(Edges.matters(7).replace("sour 1", "sour 0"));
        most(x, 0, 7, 0, 127);
        most(x, 200, 7, 0, 127);
        most(new MustardPast(), 0, 0, 0, 0);
        most(new MustardPast(), 200, 0, 0, 0);
    }

    @Says("==== 3: MOST by so much mustard (0 to 200)")
    static void notByWhatIsInThePot() {
        MustardPast x = Check.told(FIVE + "pot 0;");
        most(x, 200, 4, 20, 23);
        x = Check.told(FIVE + "pot 200;");
        most(x, 0, 1, 0, 16);
    }

    @Says("==== 3: MOST .. of equal ones by the least mustard; of equal ones the least set (bits)")
    static void ofEqualOnes() {
        MustardPast x = Check.told("matter a plain in 1 sour 3;matter b plain in 1 sour 2;matter c plain in 1 sour 2;matter d plain in 1 sour 4;"
                + "takes 1;knife 1;");
        most(x, 1, 0, 0, 0);
        most(x, 2, 1, 2, 2);
        most(x, 3, 1, 2, 2);
        most(x, 4, 2, 4, 6);
        most(x, 6, 2, 4, 6);
        most(x, 7, 3, 7, 7);
        most(x, 10, 3, 7, 7);
        most(x, 11, 4, 11, 15);
        x = Check.told("matter a plain in 1 sour 1;matter b plain in 1 sour 2;matter c plain in 1 sour 2;matter d plain in 1 sour 1;takes 1;knife 1;");
        most(x, 1, 1, 1, 1);
        most(x, 4, 3, 4, 11);
    }

    @Says("Promise 16: MOST, what 0: how many, 1: how much, 2: which, as bits; NONE: others.")
    static void othersOfMost() {
        for (MustardPast x : new MustardPast[] {new MustardPast(), Check.told(FIVE)}) {
            for (int what : new int[] {-1, -2, 3, 4, 32, Integer.MIN_VALUE, Integer.MAX_VALUE}) {
                Check.due("what " + what, x.most(0, what), -1);
            }
            for (int mustard : new int[] {-1, 201, 202, 1000, Integer.MIN_VALUE, Integer.MAX_VALUE}) {
                most(x, mustard, -1, -1, -1);
            }
        }
    }

    @Says("==== 3: ALL: the least mustard by which all MATTERS are RIGHT.")
    static void allByTheLeast() {
        Check.due("the last one of a chain", Check.told(Edges.chain(7) + "takes 1;knife 2;").all(), 2);
        Check.due("each by itself", Check.told(Edges.matters(7) + "takes 1;knife 2;").all(), 14);
        Check.due("what two led to is shared", Check.told("matter a plain in 1 sour 4;matter b plain in 1 sour 4;matter c plain in 2 sour 6;"
                + "led a c;led b c;takes 1;knife 1;").all(), 6);
        Check.due("a meant one makes nothing later right", Check.told("matter a plain in 1 sour 0;matter b plain in 2 sour 6;led a b;takes 1;knife 1;").all(), 6);
        Check.due("far more than a pot holds", Check.told(Edges.matters(7).replace("plain", "battle").replace("sour 1", "sour 40")
                + "takes 1;knife 9;").all(), 5040);
    }

    @Says("Promise 17: ALL; NONE: by none.")
    static void allByNone() {
        Check.due("a winter", Check.told("matter a winter in 1 sour 1;").all(), -1);
        Check.due("a winter that led to one", Check.told("matter a winter in 1 sour 1;matter b plain in 2 sour 1;led a b;").all(), 3);
        Check.due("a winter that one led to", Check.told("matter a plain in 1 sour 1;matter b winter in 2 sour 1;led a b;").all(), -1);
        Check.due("nothing takes", Check.told("matter a plain in 1 sour 1;takes 0;").all(), -1);
        Check.due("all are right", Check.told("matter a winter in 1 sour 1;matter b winter in 2 sour 0;led a b;").all(), 0);
        Check.due("an empty past", new MustardPast().all(), 0);
    }

    @Says("==== 3: LACKS: how much more must be in the pot so that it has that (0: none).")
    static void howMuchMore() {
        String told = "matter a plain in 1 sour 20;takes 1;knife 1;adds 1;pot ";
        int[][] potAndLacks = {{0, 20}, {1, 19}, {19, 1}, {20, 0}, {21, 0}, {200, 0}};
        for (int[] w : potAndLacks) {
            Check.due("pot " + w[0], Check.told(told + w[0] + ";").lacks(), w[1]);
        }
        MustardPast x = Check.told(told + "18;");
        x.spread(0);
        Check.due("what is spread is not lacking", x.lacks(), 2);
        x.year();
        Check.due("one more", x.lacks(), 1);
    }

    @Says("Promise 18: LACKS; NONE: by none.")
    static void lacksByNone() {
        Check.due("a winter", Check.told("matter a winter in 1 sour 1;pot 200;").lacks(), -1);
        Check.due("all are right", Check.told("matter a winter in 1 sour 0;pot 0;").lacks(), 0);
        Check.due("an empty past", Check.told("pot 0;").lacks(), 0);
        Check.due("more than a pot holds", Check.told("matter a battle in 1 sour 40;takes 1;knife 9;pot 0;").lacks(), 720);
    }

    @Says("==== 3: EASIEST: the MATTER, not MEANT, that COSTS the least; of equal ones the first.")
    static void theEasiest() {
        MustardPast x = Check.told("matter z plain in 1 sour 0;matter a plain in 1 sour 4;matter b battle in 1 sour 2;matter c plain in 1 sour 3;"
                + "matter d plain in 1 sour 3;matter w winter in 1 sour 1;takes 1;knife 1;");
        Check.due("of equal ones the first", x.easiest(), 3);
        x.spread(4);
        Check.due("less", x.easiest(), 4);
        x.spread(1);
        x.spread(1);
        Check.due("of equal ones the first", x.easiest(), 1);
        Check.due("a right one that is not meant", Check.told("matter a plain in 1 sour 9;matter b plain in 2 sour 0;led a b;").easiest(), 0);
    }

    @Says("Promise 19: EASIEST; NONE: all are MEANT, by none.")
    static void noneIsEasiest() {
        Check.due("all are meant", Check.told("matter a plain in 1 sour 0;").easiest(), -1);
        Check.due("by none", Check.told("matter a winter in 1 sour 1;matter b plain in 1 sour 0;").easiest(), -1);
        Check.due("nothing takes", Check.told("matter a plain in 1 sour 1;takes 0;").easiest(), -1);
        Check.due("an empty past", new MustardPast().easiest(), -1);
    }
}
