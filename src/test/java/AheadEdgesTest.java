/** Sentence by sentence: LATER, AGAIN, HEALS, FILLS, DINNERS, promises 20 to 24. */
public final class AheadEdgesTest {
    private static final String FOUR = "matter p plain in 5 sour 40;matter b battle in 10 sour 40;"
            + "matter w wedding in 20 sour 40;matter s winter in 30 sour 40;takes 20;pot 200;";

    public static void main(String[] args) {
        Edges.run(AheadEdgesTest.class);
    }

    @Says("==== 3: (By how it is now, nothing else being done.)")
    static void nothingElseIsDone() {
        MustardPast x = Edges.rounded(FOUR, "spread p;year;");
        Edges.spread(x, 0, 1, 2, 2, 1, 3);
        x.see(1, 3, true);
        String before = Edges.everything(x);
        for (int m = -1; m <= 4; m++) {
            x.later(m, 60);
            x.again(m);
            x.heals(m);
        }
        x.fills(200);
        x.dinners(60);
        Edges.same("asked", before, x);
    }

    @Says("==== 3: LATER: how sour one is behind so many (0 to 60) YEARS.")
    static void asByHand() {
        MustardPast x = Check.told(FOUR);
        MustardPast hand = Check.told(FOUR);
        for (MustardPast each : new MustardPast[] {x, hand}) {
            Edges.spread(each, 0, 1, 2, 3);
            each.year();
        }
        for (int years = 0; years <= 60; years++) {
            for (int m = 0; m < 4; m++) {
                Check.due("later " + m + " " + years, x.later(m, years), hand.matter(m, 2));
            }
            hand.year();
        }
    }

    @Says("==== 3: LATER: how sour one is behind so many (0 to 60) YEARS.")
    static void noneAndSixtyYears() {
        MustardPast x = Check.told(FOUR);
        Edges.spread(x, 0, 1, 2, 3);
        int[] now = {20, 20, 20, 40};
        int[] then = {20, 40, 0, 40};
        for (int m = 0; m < 4; m++) {
            Check.due("none", x.later(m, 0), now[m]);
            Check.due("sixty", x.later(m, 60), then[m]);
        }
        Check.due("nineteen", x.later(1, 19), 39);
        Check.due("nineteen", x.later(2, 19), 1);
        Check.due("twenty", x.later(1, 20), 40);
        Check.due("twenty", x.later(2, 20), 0);
    }

    @Says("Promise 20: LATER; NONE: others.")
    static void othersOfLater() {
        MustardPast x = Check.told(FOUR);
        for (int years : new int[] {-1, 61, 62, Integer.MIN_VALUE, Integer.MAX_VALUE}) {
            for (int m = 0; m < 4; m++) {
                Check.due("later " + m + " " + years, x.later(m, years), -1);
            }
        }
        for (int m : Edges.NO_MATTERS) {
            Check.due("later " + m, x.later(m, 0), -1);
        }
        Check.due("one too many", x.later(4, 0), -1);
        Check.due("the last one", x.later(3, 0), 40);
        Check.due("an empty past", new MustardPast().later(0, 0), -1);
    }

    @Says("==== 3: AGAIN: behind how many (1 to 60) one that is MEANT is not any more.")
    static void sourAgain() {
        MustardPast x = Check.told(FOUR);
        Edges.spread(x, 1, 1, 2, 2, 0, 0);
        Check.due("a battle", x.again(1), 1);
        Check.due("a wedding", x.again(2), -1);
        Check.due("a plain one", x.again(0), -1);
        x.year();
        Check.due("it is not meant any more", x.again(1), -1);
    }

    @Says("Promise 21: AGAIN; NONE: others, not MEANT, not by 60.")
    static void neverAgain() {
        MustardPast x = Check.told("matter a battle in 1 sour 0;matter b battle in 1 sour 1;matter c winter in 1 sour 0;matter d plain in 1 sour 0;"
                + "matter e wedding in 1 sour 0;");
        Check.due("without coats", x.again(0), -1);
        Check.due("not meant", x.again(1), -1);
        Edges.spread(x, 0, 1, 2, 3, 4);
        Check.due("as told at most", x.again(0), -1);
        Check.due("sour by one", x.again(1), 1);
        for (int m = 2; m < 5; m++) {
            Check.due("never " + m, x.again(m), -1);
        }
        Check.due("one too many", x.again(5), -1);
        for (int m : Edges.NO_MATTERS) {
            Check.due("again " + m, x.again(m), -1);
        }
        Check.due("an empty past", new MustardPast().again(0), -1);
    }

    @Says("==== 3: HEALS: behind how many (0 to 60) one is MEANT.")
    static void healed() {
        MustardPast x = Check.told("matter a wedding in 1 sour 40;matter b wedding in 1 sour 1;matter c plain in 1 sour 0;matter d battle in 1 sour 0;"
                + "takes 0;");
        Edges.spread(x, 0, 1, 3);
        Check.due("the longest", x.heals(0), 40);
        Check.due("the next year", x.heals(1), 1);
        Check.due("it is meant", x.heals(2), 0);
        Check.due("it is meant", x.heals(3), 0);
        x.year();
        Check.due("one less", x.heals(0), 39);
        Check.due("it is meant", x.heals(1), 0);
    }

    @Says("==== 3: HEALS: behind how many (0 to 60) one is MEANT.")
    static void aBattleThatIsMeantNow() {
        MustardPast x = Check.told(FOUR);
        Edges.spread(x, 1, 1);
        Check.due("now, though not in a year", x.heals(1), 0);
        x.year();
        Check.due("not any more", x.heals(1), -1);
    }

    @Says("Promise 22: HEALS; NONE: others, not by 60.")
    static void neverHealed() {
        MustardPast x = Check.told(FOUR);
        for (int m = 0; m < 4; m++) {
            Check.due("without coats", x.heals(m), -1);
        }
        Edges.spread(x, 0, 1, 3);
        for (int m = 0; m < 4; m++) {
            Check.due("no wedding, or without coats", x.heals(m), -1);
        }
        Check.due("one too many", x.heals(4), -1);
        for (int m : Edges.NO_MATTERS) {
            Check.due("heals " + m, x.heals(m), -1);
        }
        Check.due("an empty past", new MustardPast().heals(0), -1);
    }

    @Says("==== 3: FILLS: behind how many YEARS (0 to 60) the pot has so much (0 to 200).")
    static void filled() {
        int[][] potAddsMuchYears = {{0, 1, 0, 0}, {0, 1, 1, 1}, {0, 1, 60, 60}, {0, 1, 61, -1}, {0, 20, 200, 10}, {0, 20, 181, 10},
            {0, 20, 180, 9}, {200, 0, 200, 0}, {199, 0, 200, -1}, {199, 20, 200, 1}, {80, 2, 200, 60}, {79, 2, 200, -1}, {7, 0, 7, 0},
            {7, 0, 8, -1}, {50, 4, 0, 0}, {50, 4, 54, 1}, {50, 4, 55, 2}};
        for (int[] w : potAddsMuchYears) {
            MustardPast x = Check.told("pot " + w[0] + ";adds " + w[1] + ";");
            Check.due("pot " + w[0] + " adds " + w[1] + " fills " + w[2], x.fills(w[2]), w[3]);
        }
    }

    @Says("==== 3: FILLS: behind how many YEARS (0 to 60) the pot has so much (0 to 200).")
    static void filledFromNowOn() {
        MustardPast x = Check.told("matter a plain in 1 sour 1;pot 20;adds 3;knife 9;");
        Edges.spread(x, 0, 0);
        Check.due("2, 5, 8", x.fills(8), 2);
        x.year();
        Check.due("5, 8", x.fills(8), 1);
    }

    @Says("Promise 23: FILLS; NONE: others, not by 60.")
    static void othersOfFills() {
        MustardPast x = Check.told("pot 200;adds 20;");
        for (int mustard : new int[] {-1, 201, 202, Integer.MIN_VALUE, Integer.MAX_VALUE}) {
            Check.due("fills " + mustard, x.fills(mustard), -1);
        }
        Check.due("the most", x.fills(200), 0);
        Check.due("the least", x.fills(0), 0);
    }

    @Says("==== 3: DINNERS: how many are MEANT behind each of so many (1 to 60) YEARS, together.")
    static void together() {
        MustardPast x = Check.told("matter a battle in 1 sour 20;matter b wedding in 1 sour 21;matter c plain in 1 sour 0;takes 20;");
        Edges.spread(x, 0, 1);
        Check.due("the battle is sour again, the wedding is meant", x.dinners(1), 2);
        Check.due("two years", x.dinners(2), 4);
        Check.due("sixty", x.dinners(60), 120);
        Check.due("seven for sixty", Check.told(Edges.matters(7).replace("sour 1", "sour 0")).dinners(60), 420);
        Check.due("an empty past", new MustardPast().dinners(60), 0);
    }

    @Says("==== 3: DINNERS: how many are MEANT behind each of so many (1 to 60) YEARS, together.")
    static void dinnersAsByHand() {
        String told = "matter a battle in 1 sour 9;matter b wedding in 1 sour 40;matter c wedding in 1 sour 9;matter d plain in 1 sour 0;takes 9;";
        MustardPast x = Edges.spread(Check.told(told), 0, 1, 2);
        MustardPast hand = Edges.spread(Check.told(told), 0, 1, 2);
        int sum = 0;
        for (int years = 1; years <= 60; years++) {
            sum += hand.year();
            Check.due("dinners " + years, x.dinners(years), sum);
        }
    }

    @Says("Promise 24: DINNERS; NONE: others.")
    static void othersOfDinners() {
        for (MustardPast x : new MustardPast[] {new MustardPast(), Check.told(FOUR)}) {
            for (int years : new int[] {0, -1, 61, 62, Integer.MIN_VALUE, Integer.MAX_VALUE}) {
                Check.due("dinners " + years, x.dinners(years), -1);
            }
            Check.due("one", x.dinners(1), 0);
            Check.due("sixty", x.dinners(60), 0);
        }
    }
}
