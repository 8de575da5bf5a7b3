/** Promises 13 to 24: what makes right, at what cost, and what the years do. */
public final class MakeRightTest {
    private static final String FIVE = "matter p plain in 5 sour 7;matter b battle in 10 sour 5;matter w wedding in 20 sour 9;"
            + "matter s winter in 30 sour 4;matter z winter in 40 sour 0;led p b;led b w;led p s;knife 2;takes 3;";

    public static void main(String[] args) {
        wanting();
        cheapest();
        most();
        all();
        easiest();
        yearsAhead();
        filling();
        Check.end();
    }

    private static void wanting() {
        MustardPast x = Check.told(FIVE + "pot 0;");
        int[] wants = {3, 2, 3, -1, 0};
        int[] costs = {6, 8, 6, -1, 0};
        for (int m = 0; m < 5; m++) {
            Check.due("wants " + m, x.wants(m), wants[m]);
            Check.due("cost " + m, x.cost(m), costs[m]);
        }
        Check.due("others", x.wants(-1), -1);
        Check.due("others", x.wants(5), -1);
        Check.due("others", x.cost(-1), -1);
        Check.due("others", x.cost(5), -1);
        MustardPast far = Check.told("matter a battle in 1 sour 40;knife 9;takes 1;");
        Check.due("by 40", far.wants(0), 40);
        Check.due("by 40", far.cost(0), 720);
        far = Check.told("matter a battle in 1 sour 40;knife 9;takes 0<coats;");
        Check.due("not by 40", far.wants(0), -1);
        Check.due("not by 40", far.cost(0), -1);
        far.spread(0);
        Check.due("with the first coat on", far.wants(0), 40);
        MustardPast more = Check.told("matter a plain in 1 sour 6;takes coats+1;");
        Check.due("1, 2, 3", more.wants(0), 3);
        more.spread(0);
        Check.due("2, 3", more.wants(0), 2);
        Check.due("2, 3", more.cost(0), 6);
    }

    private static void cheapest() {
        MustardPast x = Check.told(FIVE);
        int[][] want = {{6, 0}, {6, 2}, {6, 2}, {-2, -2}, {0, 4}};
        for (int m = 0; m < 5; m++) {
            Check.due("cheap " + m + " 0", x.cheap(m, 0), want[m][0]);
            Check.due("cheap " + m + " 1", x.cheap(m, 1), want[m][1]);
            Check.due("others", x.cheap(m, 2), -2);
            Check.due("others", x.cheap(m, -1), -2);
        }
        Check.due("others", x.cheap(-1, 0), -2);
        Check.due("others", x.cheap(5, 1), -2);
        Check.due("lost", x.lost(), 8);
        for (int i = 0; i < 3; i++) {
            x.spread(2);
        }
        Check.due("right by the wedding", x.cheap(0, 0), 0);
        Check.due("itself", x.cheap(0, 1), 0);
        Check.due("a right one is not lost", x.lost(), 8);
    }

    private static void due(MustardPast x, int mustard, int many, int much, int which) {
        Check.due("most " + mustard + " 0", x.most(mustard, 0), many);
        Check.due("most " + mustard + " 1", x.most(mustard, 1), much);
        Check.due("most " + mustard + " 2", x.most(mustard, 2), which);
    }

    private static void most() {
        MustardPast x = Check.told(FIVE);
        due(x, 0, 1, 0, 16);
        due(x, 5, 1, 0, 16);
        due(x, 6, 2, 6, 17);
        due(x, 11, 2, 6, 17);
        due(x, 12, 3, 12, 21);
        due(x, 19, 3, 12, 21);
        due(x, 20, 4, 20, 23);
        due(x, 200, 4, 20, 23);
        Check.due("others", x.most(-1, 0), -1);
        Check.due("others", x.most(201, 1), -1);
        Check.due("others", x.most(5, 3), -1);
        Check.due("others", x.most(5, -1), -1);
        due(new MustardPast(), 200, 0, 0, 0);
    }

    private static void all() {
        MustardPast x = Check.told(FIVE);
        Check.due("the winter", x.all(), -1);
        Check.due("the winter", x.lacks(), -1);
        String more = FIVE + "matter x plain in 50 sour 3;led s x;";
        x = Check.told(more + "pot 5;");
        Check.due("by the wedding and what the winter led to", x.all(), 8);
        Check.due("three", x.lacks(), 3);
        x = Check.told(more + "pot 8;");
        Check.due("just enough", x.lacks(), 0);
        x = Check.told(more + "pot 20;");
        Check.due("more than enough", x.lacks(), 0);
        x.spread(5);
        Check.due("what is left to do", x.all(), 6);
        for (int i = 0; i < 3; i++) {
            x.spread(2);
        }
        Check.due("all are right", x.all(), 0);
        Check.due("all are right", x.lacks(), 0);
        MustardPast shared = Check.told("matter a plain in 1 sour 1;matter b plain in 1 sour 1;matter c plain in 2 sour 5;"
                + "led a c;led b c;knife 1;takes 1;");
        Check.due("two alone are cheaper, but c is not right by them", shared.all(), 5);
        Check.due("nothing", new MustardPast().all(), 0);
        MustardPast dear = Check.told("matter a battle in 1 sour 40;matter b battle in 1 sour 40;knife 9;takes 1;");
        Check.due("more than a pot holds", dear.all(), 1440);
        Check.due("more than a pot holds", dear.lacks(), 1390);
    }

    private static void easiest() {
        MustardPast x = Check.told(FIVE);
        Check.due("of equal ones the first", x.easiest(), 0);
        x.spread(2);
        Check.due("the wedding now", x.easiest(), 2);
        x = Check.told("matter a winter in 1 sour 1;matter b plain in 1 sour 0;");
        Check.due("by none", x.easiest(), -1);
        x = Check.told("matter a winter in 1 sour 0;matter b plain in 1 sour 0;");
        Check.due("all are meant", x.easiest(), -1);
    }

    private static void yearsAhead() {
        MustardPast x = Check.told("matter b battle in 1 sour 5;matter w wedding in 1 sour 5;matter p plain in 1 sour 5;"
                + "matter s winter in 1 sour 0;takes 3;pot 100;");
        Check.due("no coats", x.later(0, 10), 5);
        Check.due("no coats", x.heals(1), -1);
        x.spread(0);
        x.spread(1);
        int[] battle = {2, 3, 4, 5, 5};
        int[] wedding = {2, 1, 0, 0, 0};
        for (int years = 0; years < 5; years++) {
            Check.due("later 0 " + years, x.later(0, years), battle[years]);
            Check.due("later 1 " + years, x.later(1, years), wedding[years]);
        }
        Check.due("60", x.later(0, 60), 5);
        Check.due("others", x.later(0, 61), -1);
        Check.due("others", x.later(0, -1), -1);
        Check.due("others", x.later(4, 1), -1);
        Check.due("others", x.later(-1, 1), -1);
        Check.due("not meant", x.again(0), -1);
        Check.due("not meant", x.again(1), -1);
        Check.due("heals", x.heals(1), 2);
        Check.due("a battle does not", x.heals(0), -1);
        x.spread(0);
        Check.due("a battle is sour again", x.again(0), 1);
        Check.due("it is meant now", x.heals(0), 0);
        Check.due("a winter that is meant", x.again(3), -1);
        Check.due("others", x.again(4), -1);
        Check.due("others", x.again(-1), -1);
        Check.due("others", x.heals(4), -1);
        Check.due("others", x.heals(-1), -1);
        Check.due("dinners 1", x.dinners(1), 1);
        Check.due("dinners 2", x.dinners(2), 3);
        Check.due("dinners 60", x.dinners(60), 119);
        Check.due("others", x.dinners(0), -1);
        Check.due("others", x.dinners(61), -1);
        Check.due("no year has passed", x.count(3), 0);
        Check.due("the pot", x.count(4), 85);
        MustardPast sweet = Check.told("matter b battle in 1 sour 0;matter w wedding in 1 sour 40;takes 0;");
        sweet.spread(0);
        sweet.spread(1);
        Check.due("as told at most", sweet.again(0), -1);
        Check.due("forty years", sweet.heals(1), 40);
    }

    private static void filling() {
        MustardPast x = new MustardPast();
        int[][] want = {{0, 0}, {50, 0}, {51, 1}, {54, 1}, {55, 2}, {200, 38}, {201, -1}, {-1, -1}};
        for (int[] w : want) {
            Check.due("fills " + w[0], x.fills(w[0]), w[1]);
        }
        x = Check.told("adds 2;");
        Check.due("by 60", x.fills(170), 60);
        Check.due("not by 60", x.fills(171), -1);
        x = Check.told("adds 0;pot 7;");
        Check.due("now", x.fills(7), 0);
        Check.due("never", x.fills(8), -1);
    }
}
