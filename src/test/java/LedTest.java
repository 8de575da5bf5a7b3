/** Promises 25 to 38: what led to what, how sour all are, which it was. */
public final class LedTest {
    private static final String SEVEN = "matter a plain in 1 sour 2;matter b plain in 2 sour 9;matter c battle in 3 sour 9;"
            + "matter d plain in 4 sour 2;matter e plain in 9 sour 3;matter f winter in 50 sour 0;matter g winter in 50 sour 4;"
            + "led a b;led b d;led a c;led c d;led a d;led d e;";
    private static final String FOUR = "matter p plain in 1 sour 7;matter q plain in 1 sour 4;matter w winter in 1 sour 4;"
            + "matter z plain in 1 sour 0;takes 3;";

    public static void main(String[] args) {
        graph();
        redeeming();
        gaps();
        sour();
        seeing();
        tasting();
        Check.end();
    }

    private static void graph() {
        MustardPast x = Check.told(SEVEN);
        int[] causes = {0, 1, 1, 7, 15, 0, 0};
        int[] fruits = {30, 24, 24, 16, 0, 0, 0};
        int[] elders = {0, 1, 3, 7, 15, 31, 31};
        int[][] ways = {{1, 1, 1, 3, 3, 0, 0}, {0, 1, 0, 1, 1, 0, 0}, {0, 0, 1, 1, 1, 0, 0}, {0, 0, 0, 1, 1, 0, 0}};
        for (int m = 0; m < 7; m++) {
            Check.due("causes " + m, x.causes(m), causes[m]);
            Check.due("fruits " + m, x.fruits(m), fruits[m]);
            Check.due("elders " + m, x.elders(m), elders[m]);
            for (int o = 0; o < 4; o++) {
                Check.due("ways " + o + " " + m, x.ways(o, m), ways[o][m]);
            }
        }
        for (int other : new int[] {-1, 7, Integer.MIN_VALUE, Integer.MAX_VALUE}) {
            Check.due("causes others", x.causes(other), -1);
            Check.due("fruits others", x.fruits(other), -1);
            Check.due("elders others", x.elders(other), -1);
            Check.due("ways others", x.ways(other, 0), -1);
            Check.due("ways others", x.ways(0, other), -1);
            Check.due("ways others", x.ways(other, other), -1);
        }
        Check.due("story", x.story(), 4);
        Check.due("roots", x.roots(), 97);
        Check.due("story of one", Check.told("matter a plain in 1 sour 1;").story(), 1);
        Check.due("story of nothing", new MustardPast().story(), 0);
        Check.due("roots of nothing", new MustardPast().roots(), 0);
        MustardPast full = Check.told(everyoneLed());
        Check.due("all ways", full.ways(0, 6), 32);
        Check.due("the longest story", full.story(), 7);
    }

    private static String everyoneLed() {
        StringBuilder s = new StringBuilder();
        for (char c = 'a'; c <= 'g'; c++) {
            s.append("matter " + c + " plain in " + (c - 'a') + " sour 1;");
        }
        for (char c = 'a'; c <= 'g'; c++) {
            for (char d = (char) (c + 1); d <= 'g'; d++) {
                s.append("led " + c + " " + d + ";");
            }
        }
        return s.toString();
    }

    private static void redeeming() {
        MustardPast x = Check.told(SEVEN + "takes 1;");
        Check.due("e redeems a, b, c, d", x.redeems(), 4);
        x.spread(3);
        x.spread(3);
        Check.due("d is meant: its causes are right", x.redeems(), -1);
        x.eat(3);
        x.spread(0);
        x.spread(0);
        Check.due("a is right already, so b, c, d are left", x.redeems(), 4);
        MustardPast tie = Check.told("matter a plain in 1 sour 1;matter b plain in 2 sour 1;matter c plain in 1 sour 1;"
                + "matter d plain in 2 sour 1;led a b;led c d;");
        Check.due("of equal ones the first", tie.redeems(), 1);
        Check.due("none", new MustardPast().redeems(), -1);
    }

    private static void gaps() {
        Check.due("gap", Check.told(SEVEN).gap(), 41);
        Check.due("gap of one", Check.told("matter a plain in 9 sour 1;").gap(), 0);
        Check.due("gap of the same year", Check.told("matter a plain in 9 sour 1;matter b plain in 9 sour 1;").gap(), 0);
        Check.due("in order by their years",
                Check.told("matter a plain in 99 sour 1;matter b plain in 0 sour 1;matter c plain in 40 sour 1;").gap(), 59);
    }

    private static void sour() {
        MustardPast x = Check.told(SEVEN + "takes 20;pot 200;");
        Check.due("bare", x.bare(), 64);
        Check.due("sourest, the first", x.sourest(), 1);
        Check.due("lost", x.lost(), 64);
        for (int m = 0; m < 5; m++) {
            x.spread(m);
        }
        Check.due("the winter now", x.sourest(), 6);
        x = Check.told("matter a winter in 1 sour 0;");
        Check.due("none is sour", x.sourest(), -1);
        Check.due("none is bare", x.bare(), 0);
        Check.due("none is lost", x.lost(), 0);
        x = Check.told("matter a plain in 1 sour 1;matter b plain in 2 sour 1;led a b;takes 0;");
        Check.due("both are lost", x.lost(), 3);
    }

    private static void seeing() {
        MustardPast x = Check.told(FOUR);
        Check.due("all", x.who(), 15);
        Check.due("see", x.see(0, 4, true), true);
        Check.due("no sourer than 4", x.who(), 14);
        Check.due("see", x.see(1, 1, false), true);
        Check.due("sourer than 1 with a coat more", x.who(), 4);
        Check.due("two seen", x.count(8), 2);
        Check.due("nothing is done", x.count(4), 50);
        x.spread(0);
        Check.due("by how it is now: p is 4, and 1 with a coat more", x.who(), 4);
        x.eat(0);
        for (int[] wrong : new int[][] {{-1, 0}, {10, 0}, {0, -1}, {0, 41}}) {
            Check.due("others", x.see(wrong[0], wrong[1], true), false);
        }
        Check.due("two still", x.count(8), 2);
        for (int i = 0; i < 6; i++) {
            Check.due("see", x.see(9, 40, true), true);
        }
        Check.due("a ninth", x.see(0, 0, true), false);
        Check.due("eight", x.count(8), 8);
        Check.due("who", x.who(), 4);
        x = Check.told(FOUR + "pot 0;");
        x.see(9, 0, true);
        Check.due("whatever is in the pot", x.who(), 11);
        x.see(0, 0, false);
        x.see(0, 40, false);
        Check.due("none", x.who(), 0);
        Check.due("none to taste", x.taste(), -1);
    }

    private static void tasting() {
        MustardPast x = Check.told(FOUR);
        Check.due("two and two by a coat", x.taste(), 101);
        x.see(1, 1, true);
        Check.due("q and z", x.who(), 10);
        Check.due("z is no sourer than 0", x.taste(), 0);
        x.see(0, 0, false);
        Check.due("q", x.who(), 2);
        Check.due("one is not parted", x.taste(), -1);
        x = Check.told("matter a plain in 1 sour 5;matter b plain in 1 sour 5;");
        Check.due("alike", x.taste(), -1);
        x = Check.told("matter a plain in 1 sour 40;matter b winter in 1 sour 40;takes 20*(8<coats+1);");
        Check.due("only the ninth coat parts them", x.taste(), 920);
        x = Check.told("matter a plain in 1 sour 40;matter b winter in 1 sour 40;takes 20*(9<coats+1);");
        Check.due("a tenth is too many", x.taste(), -1);
    }
}
