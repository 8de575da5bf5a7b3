/** Promises 5 to 12: by hand, the law of how it takes, JUDGED, MEANT, RIGHT. */
public final class HandTest {
    private static final String FOUR = "matter p plain in 5 sour 6;matter b battle in 10 sour 6;"
            + "matter w wedding in 20 sour 6;matter s winter in 30 sour 6;led p b;led b w;led p s;";

    public static void main(String[] args) {
        laws();
        spreading();
        eating();
        passing();
        undoing();
        asking();
        judging();
        Check.end();
    }

    /** How much one coat takes off one of the year 30 that is 40 sour, the knife being 2. */
    private static void taken(String law, int want) {
        MustardPast x = Check.told("matter a plain in 30 sour 40;pot 200;knife 2;" + law);
        Check.due(law, 40 - x.spread(0), want);
    }

    private static void laws() {
        taken("", 2);
        taken("takes 7;", 7);
        taken("takes 20;", 20);
        taken("takes 21;", 20);
        taken("takes 9999;", 20);
        taken("takes 3-5;", 0);
        taken("takes 2+3*4;", 14);
        taken("takes (2+3)*3;", 15);
        taken("takes 10-3-2;", 5);
        taken("takes left-25;", 15);
        taken("takes coats+1;", 1);
        taken("takes age-60;", 10);
        taken("takes thick*4;", 8);
        taken("takes 1<2;", 1);
        taken("takes 2<2;", 0);
        taken("takes 2=2;", 1);
        taken("takes 2=3;", 0);
        taken("takes 5 and 3;", 1);
        taken("takes 4 and 2;", 1);
        taken("takes 5 and 0;", 0);
        taken("takes 0 or 9;", 1);
        taken("takes 0 or 0;", 0);
        taken("takes 1 or 0 and 0;", 0);
        taken("takes 0 and 0 or 1;", 1);
        taken("takes not 0;", 1);
        taken("takes not 5;", 0);
        taken("takes not not 5;", 1);
        taken("takes not 0*7;", 7);
        taken("takes not 0+3;", 4);
        taken("takes not (0*7);", 1);
        taken("takes 2*3<7;", 1);
        taken("takes 1+1=2 and 3;", 1);
        taken("takes (1<2)+(2<3)+(3<2);", 2);
        taken("takes 0-9999*9999*22;", 20);
        taken("takes 9999*9999*22;", 0);
        taken("takes ((((left-30))));", 10);
    }

    private static void spreading() {
        MustardPast x = Check.told(FOUR + "pot 16;takes coats*10+2;");
        Check.due("plain", x.spread(0), 4);
        Check.due("takes the knife", x.count(4), 13);
        Check.due("a coat", x.matter(0, 3), 1);
        Check.due("0 at least", x.spread(0), 0);
        Check.due("battle", x.spread(1), 4);
        Check.due("takes the knife twice", x.count(4), 4);
        Check.due("a battle can't be", x.spread(1), -1);
        Check.due("it runs off a winter", x.spread(3), 6);
        Check.due("no coat", x.matter(3, 3), 0);
        Check.due("but it is gone", x.count(4), 1);
        Check.due("can't be", x.spread(2), -1);
        Check.due("only what was done", x.count(9), 4);
        Check.due("others", x.spread(-1), -1);
        Check.due("others", x.spread(4), -1);
        MustardPast even = Check.told("matter a plain in 1 sour 3;matter b battle in 1 sour 0;pot 9;");
        Check.due("one that is meant", even.spread(1), 0);
        Check.due("just enough", even.spread(0), 0);
        Check.due("nothing left", even.count(4), 0);
        MustardPast ages = Check.told("matter a plain in 90 sour 40;takes age;");
        ages.year();
        ages.year();
        Check.due("100 less its year, and the year", ages.spread(0), 28);
    }

    private static void eating() {
        MustardPast x = Check.told(FOUR);
        Check.due("no coats", x.eat(0), -1);
        Check.due("others", x.eat(-1), -1);
        Check.due("others", x.eat(4), -1);
        Check.due("others", x.eat(Integer.MAX_VALUE), -1);
        x.spread(0);
        x.spread(0);
        Check.due("as sour as told", x.eat(0), 6);
        Check.due("no coats", x.matter(0, 3), 0);
        Check.due("the pot stays", x.count(4), 44);
        Check.due("once", x.eat(0), -1);
        x.spread(3);
        Check.due("a winter has none", x.eat(3), -1);
        Check.due("undone ones", x.count(9), 4);
    }

    private static void passing() {
        MustardPast x = Check.told(FOUR + "pot 100;adds 20;");
        Check.due("nothing is meant", x.year(), 0);
        Check.due("without coats all stays", x.count(5), 24);
        for (int m = 0; m < 4; m++) {
            x.spread(m);
        }
        x.year();
        Check.due("plain stays", x.matter(0, 2), 3);
        Check.due("battle is sourer", x.matter(1, 2), 4);
        Check.due("wedding is less", x.matter(2, 2), 2);
        Check.due("winter stays", x.matter(3, 2), 6);
        x.year();
        Check.due("wedding is meant", x.year(), 1);
        x.year();
        Check.due("as told at most", x.matter(1, 2), 6);
        Check.due("0 at least", x.matter(2, 2), 0);
        Check.due("the year", x.count(3), 5);
        Check.due("the pot", x.count(4), 185);
        x.year();
        Check.due("200 at most", x.count(4), 200);
        MustardPast none = new MustardPast();
        Check.due("without matters", none.year(), 0);
        Check.due("the pot", none.count(4), 54);
    }

    private static void undoing() {
        MustardPast x = Check.told(FOUR + "pot 200;");
        Check.due("nothing", x.undo(), false);
        x.spread(0);
        x.spread(2);
        x.eat(0);
        x.year();
        Check.due("what can be", x.count(9), 4);
        Check.due("the year", x.undo(), true);
        Check.due("its year", x.count(3), 0);
        Check.due("its pot", x.count(4), 194);
        Check.due("its wedding", x.matter(2, 2), 3);
        Check.due("the eating", x.undo(), true);
        Check.due("its coats", x.matter(0, 3), 1);
        Check.due("how sour", x.matter(0, 2), 3);
        Check.due("the spreading", x.undo() && x.undo(), true);
        Check.due("the pot", x.count(4), 200);
        Check.due("coats", x.count(6), 0);
        Check.due("nothing more", x.undo(), false);
        for (int i = 0; i < 20; i++) {
            x.year();
        }
        Check.due("the last 16", x.count(9), 16);
        for (int i = 0; i < 16; i++) {
            Check.due("undo " + i, x.undo(), true);
        }
        Check.due("no more", x.undo(), false);
        Check.due("back to the fourth", x.count(3), 4);
    }

    private static void asking() {
        MustardPast x = Check.told(FOUR);
        int[][] want = {{0, 5, 6, 0, 0, 0, 10}, {1, 10, 6, 0, 0, 0, 4}, {2, 20, 6, 0, 0, 0, 0}, {3, 30, 6, 0, 0, 0, 0}};
        for (int m = 0; m < 4; m++) {
            for (int what = 0; what < 7; what++) {
                Check.due("matter " + m + " " + what, x.matter(m, what), want[m][what]);
            }
            Check.due("others", x.matter(m, -1), -1);
            Check.due("others", x.matter(m, 7), -1);
        }
        Check.due("others", x.matter(-1, 0), -1);
        Check.due("others", x.matter(4, 0), -1);
        Check.due("none is meant", x.meant(), 0);
        Check.due("none is right", x.right(), 0);
        x.spread(2);
        x.spread(2);
        Check.due("the wedding is meant", x.meant(), 4);
        Check.due("right through however many", x.right(), 7);
        Check.due("meant", x.matter(2, 4), 1);
        Check.due("not meant", x.matter(0, 4), 0);
        Check.due("but right", x.matter(0, 5), 1);
        Check.due("not right", x.matter(3, 5), 0);
        Check.due("one meant", x.year(), 1);
    }

    private static void judging() {
        MustardPast x = Check.told(FOUR + "pot 20;adds 3;");
        Check.due("no round", x.judged(0), -1);
        Check.due("no round", x.judged(1), -1);
        Check.due("no round", x.judged(2), 0);
        Check.due("others", x.judged(-1), -2);
        Check.due("others", x.judged(3), -2);
        Check.due("round", Check.round(x, "spread w;eat p;spread w;spread b;spread b;spread p;year;spread p;"), 0);
        Check.due("an eat can't be", x.judged(0), 1);
        Check.due("the winter is never right", x.judged(1), -1);
        Check.due("the wedding", x.judged(2), 1);
        x.spread(0);
        x.spread(0);
        x.year();
        Check.due("from the beginning", x.judged(2), 1);
        Check.due("nothing is done by it", x.count(4), 17);
        Check.due("all can be", Check.round(x, "spread b;year;spread w;eat b;"), 0);
        Check.due("all can be", x.judged(0), -1);
        Check.due("none is meant", x.judged(2), 0);

        MustardPast y = Check.told("matter a plain in 1 sour 6;matter b battle in 2 sour 3;led a b;pot 12;adds 0;");
        Check.due("round", Check.round(y, "spread a;spread b;year;spread b;spread a;"), 0);
        Check.due("nothing left for the last one", y.judged(0), 3);
        Check.due("right behind the second one, though not at last", y.judged(1), 1);
        Check.due("at last: a is 3 and 0, b is 1", y.judged(2), 1);
        Check.due("round", Check.round(y, "year;spread b;spread b;spread b;"), 0);
        Check.due("the third spreading", y.judged(0), 3);

        MustardPast z = new MustardPast();
        Check.due("round", Check.round(z, "year;year;"), 0);
        Check.due("without matters: the first line", z.judged(1), 0);
        Check.due("no line", z.judged(0), -1);
        Check.due("none", z.judged(2), 0);
    }
}
