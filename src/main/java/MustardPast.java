import java.util.NoSuchElementException;

/**
 * Pasts told in a language, and the mustard that is put on them when they are over.
 * Each public method is one promise of the document. All rows are made with the object,
 * so that no later call makes any.
 */
public final class MustardPast {
    public static final int NONE = -1;

    private static final int OTHERS = -2;
    private static final int MAX_SIGNS = 1000;
    private static final int MAX_MATTERS = 7;
    private static final int MAX_BIRTH = 99;
    private static final int MAX_SOUR = 40;
    private static final int MAX_KNIFE = 9;
    private static final int MAX_POT = 200;
    private static final int MAX_ADDS = 20;
    private static final int MAX_TAKEN = 20;
    private static final int MAX_LINES = 40;
    private static final int MAX_DEPTH = 5;
    private static final int MAX_UNDO = 16;
    private static final int MAX_COATS = 40;
    private static final int MAX_AHEAD = 60;
    private static final int MAX_SEEN = 8;
    private static final int MAX_TASTED = 9;
    private static final int MAX_CHANCES = 6;
    private static final int MAX_ODDS = 10;
    private static final int MAX_GAIN = 9;
    private static final int MAX_SEED = 9999;
    private static final int MAX_DRAWN = 99;
    private static final int MARKS = 4;

    /** The words that the language knows, each numbered by its place here. */
    private static final String WORDS = "matter in sour led knife pot adds takes spread eat year plain battle wedding winter not and or left coats age thick ";
    private static final int MATTER = 0;
    private static final int IN = 1;
    private static final int SOUR = 2;
    private static final int LED = 3;
    private static final int KNIFE = 4;
    private static final int POT = 5;
    private static final int ADDS = 6;
    private static final int TAKES = 7;
    private static final int SPREAD = 8;
    private static final int EAT = 9;
    private static final int YEAR = 10;
    private static final int PLAIN = 11;
    private static final int WINTER = 14;
    private static final int NOT = 15;
    private static final int AND = 16;
    private static final int OR = 17;
    /** From here on the words are facts, which may be names too. */
    private static final int LEFT = 18;
    private static final int COATS = 19;
    private static final int AGE = 20;
    private static final int THICK = 21;
    private static final int NO_KEY = 22;

    private static final int IS_BATTLE = 1;
    private static final int IS_WEDDING = 2;
    private static final int IS_WINTER = 3;

    private static final int WRONG_TOKEN = 1;
    private static final int UNKNOWN_NAME = 2;
    private static final int TOLD_ALREADY = 3;
    private static final int WRONG_NUMBER = 4;
    private static final int TOO_MANY = 5;

    private final Reader tape = new Reader();
    private final Parser parser = new Parser(tape);
    private Past told = new Past();
    private Past draft = new Past();
    private final State now = new State();
    private final State trial = new State();
    private final History history = new History();
    private final Lines lines = new Lines();
    private final Lines draftLines = new Lines();
    private final Seen seen = new Seen();
    private final Mark[] marks = new Mark[MARKS];
    private final int[] costs = new int[MAX_MATTERS];
    private final int[] tastes = new int[(MAX_TASTED + 1) * MAX_MATTERS];

    public MustardPast() {
        for (int i = 0; i < marks.length; i++) {
            marks[i] = new Mark();
        }
        told.clear();
        now.begin(told);
    }

    public int feed(long a, long b, long c) {
        tape.addBytes(a);
        tape.addBytes(b);
        tape.addBytes(c);
        return tape.length;
    }

    public int past() {
        int fault = parser.readPast(draft);
        if (fault == 0) {
            Past before = told;
            told = draft;
            draft = before;
            beginAnew();
        }
        return fault;
    }

    private void beginAnew() {
        now.begin(told);
        lines.clear();
        seen.size = 0;
        history.clear();
        for (int i = 0; i < marks.length; i++) {
            marks[i].laid = false;
        }
    }

    public int round() {
        int fault = parser.readRound(draftLines, told);
        if (fault == 0) {
            lines.copy(draftLines);
        }
        return fault;
    }

    public int matter(int matter, int what) {
        if (!isMatter(matter)) {
            return NONE;
        }
        switch (what) {
            case 0: return told.kind[matter];
            case 1: return told.birth[matter];
            case 2: return now.sour[matter];
            case 3: return now.coats[matter];
            case 4: return bit(meant(), matter);
            case 5: return bit(right(), matter);
            case 6: return told.led[matter];
            default: return NONE;
        }
    }

    public int spread(int matter) {
        if (!isMatter(matter) || !now.canSpread(told, matter)) {
            return NONE;
        }
        history.keep(now);
        now.putOn(told, matter);
        return now.sour[matter];
    }

    public int eat(int matter) {
        if (!isMatter(matter) || now.coats[matter] == 0) {
            return NONE;
        }
        history.keep(now);
        now.takeOff(told, matter);
        return now.sour[matter];
    }

    public int year() {
        history.keep(now);
        now.pass(told);
        return Integer.bitCount(meant());
    }

    public boolean undo() {
        return history.giveBack(now);
    }

    public int judged(int what) {
        if (!within(what, 0, 2)) {
            return OTHERS;
        }
        int impossible = NONE;
        int fulfilled = NONE;
        trial.begin(told);
        for (int i = 0; i < lines.size; i++) {
            if (!trial.follow(told, lines.verb[i], lines.whom[i]) && impossible == NONE) {
                impossible = i;
            }
            if (fulfilled == NONE && told.rightBy(trial.meantBits(told)) == told.everyone()) {
                fulfilled = i;
            }
        }
        switch (what) {
            case 0: return impossible;
            case 1: return fulfilled;
            default: return Integer.bitCount(trial.meantBits(told));
        }
    }

    public int meant() {
        return now.meantBits(told);
    }

    public int right() {
        return told.rightBy(meant());
    }

    public int wants(int matter) {
        return isMatter(matter) ? coatsWanted(matter) : NONE;
    }

    private int coatsWanted(int matter) {
        int left = now.sour[matter];
        for (int more = 0; more <= MAX_COATS; more++) {
            if (left == 0) {
                return more;
            }
            left = told.sourAfterCoat(matter, left, now.coats[matter] + more, now.year);
        }
        return NONE;
    }

    public int cost(int matter) {
        return isMatter(matter) ? mustardFor(matter, coatsWanted(matter)) : NONE;
    }

    private int mustardFor(int matter, int coats) {
        return coats == NONE ? NONE : coats * told.price(matter);
    }

    private void reckonCosts() {
        for (int m = 0; m < told.matters; m++) {
            costs[m] = mustardFor(m, coatsWanted(m));
        }
    }

    public int cheap(int matter, int what) {
        if (!isMatter(matter) || !within(what, 0, 1)) {
            return OTHERS;
        }
        reckonCosts();
        int by = cheapestFor(matter);
        if (by == NONE) {
            return OTHERS;
        }
        if (what == 1) {
            return by;
        }
        return bit(right(), matter) == 1 ? 0 : costs[by];
    }

    /** Wants the costs reckoned. */
    private int cheapestFor(int matter) {
        if (bit(right(), matter) == 1) {
            return matter;
        }
        return cheapestOf(told.fruitBits(matter) | 1 << matter);
    }

    /** Wants the costs reckoned. */
    private int cheapestOf(int set) {
        int best = NONE;
        for (int m = 0; m < told.matters; m++) {
            if (bit(set, m) == 1 && costs[m] != NONE && (best == NONE || costs[m] < costs[best])) {
                best = m;
            }
        }
        return best;
    }

    public int most(int mustard, int what) {
        if (!within(mustard, 0, MAX_POT) || !within(what, 0, 2)) {
            return NONE;
        }
        reckonCosts();
        int meantNow = meant();
        int best = meantNow;
        int bestCost = 0;
        for (int set = 0; set <= told.everyone(); set++) {
            int cost = costOfSet(set);
            if ((set & meantNow) != meantNow || cost == NONE || cost > mustard) {
                continue;
            }
            int more = Integer.bitCount(set) - Integer.bitCount(best);
            if (more > 0 || more == 0 && cost < bestCost) {
                best = set;
                bestCost = cost;
            }
        }
        switch (what) {
            case 0: return Integer.bitCount(best);
            case 1: return bestCost;
            default: return best;
        }
    }

    /** Wants the costs reckoned. */
    private int costOfSet(int set) {
        int sum = 0;
        for (int m = 0; m < told.matters; m++) {
            if (bit(set, m) == 1) {
                if (costs[m] == NONE) {
                    return NONE;
                }
                sum += costs[m];
            }
        }
        return sum;
    }

    public int all() {
        reckonCosts();
        int meantNow = meant();
        int least = NONE;
        for (int set = 0; set <= told.everyone(); set++) {
            int cost = costOfSet(set);
            if (cost != NONE && (least == NONE || cost < least)
                    && told.rightBy(set | meantNow) == told.everyone()) {
                least = cost;
            }
        }
        return least;
    }

    public int lacks() {
        int least = all();
        return least == NONE ? NONE : Math.max(0, least - now.pot);
    }

    public int easiest() {
        reckonCosts();
        return cheapestOf(told.everyone() & ~meant());
    }

    public int later(int matter, int years) {
        if (!isMatter(matter) || !within(years, 0, MAX_AHEAD)) {
            return NONE;
        }
        int sour = now.sour[matter];
        for (int i = 0; i < years; i++) {
            sour = told.sourAfterYear(matter, sour, now.coats[matter]);
        }
        return sour;
    }

    public int again(int matter) {
        if (!isMatter(matter) || now.sour[matter] != 0) {
            return NONE;
        }
        int sour = 0;
        for (int years = 1; years <= MAX_AHEAD; years++) {
            sour = told.sourAfterYear(matter, sour, now.coats[matter]);
            if (sour != 0) {
                return years;
            }
        }
        return NONE;
    }

    public int heals(int matter) {
        if (!isMatter(matter)) {
            return NONE;
        }
        int sour = now.sour[matter];
        for (int years = 0; years <= MAX_AHEAD; years++) {
            if (sour == 0) {
                return years;
            }
            sour = told.sourAfterYear(matter, sour, now.coats[matter]);
        }
        return NONE;
    }

    public int fills(int mustard) {
        if (!within(mustard, 0, MAX_POT)) {
            return NONE;
        }
        int pot = now.pot;
        for (int years = 0; years <= MAX_AHEAD; years++) {
            if (pot >= mustard) {
                return years;
            }
            pot = told.potAfterYear(pot);
        }
        return NONE;
    }

    public int dinners(int years) {
        if (!within(years, 1, MAX_AHEAD)) {
            return NONE;
        }
        int sum = 0;
        trial.copy(now);
        for (int i = 0; i < years; i++) {
            trial.pass(told);
            sum += Integer.bitCount(trial.meantBits(told));
        }
        return sum;
    }

    public int causes(int matter) {
        return isMatter(matter) ? told.causeBits(matter) : NONE;
    }

    public int fruits(int matter) {
        return isMatter(matter) ? told.fruitBits(matter) : NONE;
    }

    public int ways(int matter, int other) {
        return isMatter(matter) && isMatter(other) ? told.waysTo(matter, other, 0) : NONE;
    }

    public int story() {
        int longest = 0;
        for (int m = 0; m < told.matters; m++) {
            longest = Math.max(longest, told.storyFrom(m, 0));
        }
        return longest;
    }

    public int roots() {
        return told.rootBits();
    }

    public int elders(int matter) {
        return isMatter(matter) ? told.elderBits(matter) : NONE;
    }

    public int redeems() {
        int notRight = told.everyone() & ~right();
        int best = NONE;
        int mostMore = 0;
        for (int m = 0; m < told.matters; m++) {
            int more = Integer.bitCount(told.causeBits(m) & notRight);
            if (now.sour[m] != 0 && more > mostMore) {
                best = m;
                mostMore = more;
            }
        }
        return best;
    }

    public int gap() {
        return told.widestGap();
    }

    public int bare() {
        int bits = 0;
        for (int m = 0; m < told.matters; m++) {
            if (told.kind[m] == IS_WINTER && now.sour[m] != 0) {
                bits |= 1 << m;
            }
        }
        return bits;
    }

    public int sourest() {
        int best = NONE;
        int most = 0;
        for (int m = 0; m < told.matters; m++) {
            if (now.sour[m] > most) {
                best = m;
                most = now.sour[m];
            }
        }
        return best;
    }

    public int lost() {
        reckonCosts();
        int bits = 0;
        for (int m = 0; m < told.matters; m++) {
            if (cheapestFor(m) == NONE) {
                bits |= 1 << m;
            }
        }
        return bits;
    }

    public boolean see(int coats, int sour, boolean less) {
        return within(coats, 0, MAX_TASTED) && within(sour, 0, MAX_SOUR) && seen.add(coats, sour, less);
    }

    public int who() {
        reckonTastes();
        return suspects();
    }

    /** How sour each matter is with each number of coats more: reckoned once for all that is asked of it. */
    private void reckonTastes() {
        for (int m = 0; m < told.matters; m++) {
            int left = now.sour[m];
            for (int more = 0; more <= MAX_TASTED; more++) {
                tastes[more * MAX_MATTERS + m] = left;
                left = told.sourAfterCoat(m, left, now.coats[m] + more, now.year);
            }
        }
    }

    /** Wants the tastes reckoned. */
    private int suspects() {
        int bits = told.everyone();
        for (int i = 0; i < seen.size; i++) {
            int noSourer = noSourerBits(seen.coats[i], seen.sour[i]);
            bits &= seen.less[i] ? noSourer : ~noSourer;
        }
        return bits;
    }

    /** Wants the tastes reckoned. */
    private int noSourerBits(int more, int sour) {
        int bits = 0;
        for (int m = 0; m < told.matters; m++) {
            if (tastes[more * MAX_MATTERS + m] <= sour) {
                bits |= 1 << m;
            }
        }
        return bits;
    }

    public int taste() {
        reckonTastes();
        int set = suspects();
        int every = Integer.bitCount(set);
        int best = NONE;
        int least = every;
        for (int more = 0; more <= MAX_TASTED; more++) {
            for (int sour = 0; sour <= MAX_SOUR; sour++) {
                int noSourer = Integer.bitCount(set & noSourerBits(more, sour));
                int greater = Math.max(noSourer, every - noSourer);
                if (greater < least) {
                    least = greater;
                    best = 100 * more + sour;
                }
            }
        }
        return best;
    }

    public int chance(int matter, int years, int odds) {
        if (!isMatter(matter) || !within(years, 1, MAX_CHANCES) || !within(odds, 0, MAX_ODDS)) {
            return NONE;
        }
        int parts = partsMeant(matter, now.sour[matter], now.coats[matter], now.pot, now.year,
                now.year + years, odds);
        for (int i = years; i < MAX_CHANCES; i++) {
            parts *= 10;
        }
        return parts;
    }

    /** Of ten for each year up to the last one; at most six years are asked for, so it goes no deeper. */
    private int partsMeant(int matter, int sour, int coats, int pot, int year, int last, int odds) {
        if (year >= last) {
            return sour == 0 ? 1 : 0;
        }
        int without = partsMeant(matter, told.sourAfterYear(matter, sour, coats), coats,
                told.potAfterYear(pot), year + 1, last, odds);
        int price = told.price(matter);
        if (odds == 0 || pot < price) {
            return 10 * without;
        }
        int thenSour = told.sourAfterCoat(matter, sour, coats, year);
        int thenCoats = told.coatsAfterCoat(matter, coats);
        int with = partsMeant(matter, told.sourAfterYear(matter, thenSour, thenCoats), thenCoats,
                told.potAfterYear(pot - price), year + 1, last, odds);
        return odds * with + (MAX_ODDS - odds) * without;
    }

    public int rests(int both, int loses, int gets, int what) throws NoSuchElementException {
        if (!within(both, 0, MAX_GAIN) || !within(loses, 0, MAX_GAIN) || !within(gets, 0, MAX_GAIN)) {
            throw new NoSuchElementException();
        }
        int found = 0;
        for (int choices = 0; choices < 4; choices++) {
            if (isRest(both, loses, gets, choices)) {
                if (found == what) {
                    return choices;
                }
                found++;
            }
        }
        if (what != NONE) {
            throw new NoSuchElementException();
        }
        return found;
    }

    private static boolean isRest(int both, int loses, int gets, int choices) {
        int first = choices >> 1;
        int second = choices & 1;
        return gain(both, loses, gets, 1 - first, second) <= gain(both, loses, gets, first, second)
                && gain(both, loses, gets, 1 - second, first) <= gain(both, loses, gets, second, first);
    }

    private static int gain(int both, int loses, int gets, int own, int others) {
        if (own == 1) {
            return others == 1 ? both : -loses;
        }
        return others == 1 ? gets : 0;
    }

    public int years(int seed, int years, int what) {
        if (!within(seed, 0, MAX_SEED) || !within(years, 1, MAX_DRAWN) || !within(what, 0, 2)) {
            return NONE;
        }
        int spreads = liveYears(seed, years);
        switch (what) {
            case 0: return spreads;
            case 1: return trial.meantBits(told);
            default: return trial.pot;
        }
    }

    /** The trial holds how it is at last. */
    private int liveYears(int seed, int years) {
        int spreads = 0;
        long g = seed;
        trial.copy(now);
        for (int i = 0; i < years; i++) {
            if (told.matters > 0) {
                g = nextDraw(g);
                int matter = drawnBelow(g, told.matters);
                g = nextDraw(g);
                int choice = drawnBelow(g, 4);
                if (choice == 0) {
                    trial.follow(told, EAT, matter);
                } else if (choice <= 2 && trial.follow(told, SPREAD, matter)) {
                    spreads++;
                }
            }
            trial.pass(told);
        }
        return spreads;
    }

    private static long nextDraw(long g) {
        return (g * 1103515245L + 12345L) % 2147483648L;
    }

    private static int drawnBelow(long g, int bound) {
        return bound <= 0 ? 0 : (int) (g / 65536L % bound);
    }

    public boolean mark(int mark, boolean back) {
        if (!within(mark, 0, MARKS - 1)) {
            return false;
        }
        Mark place = marks[mark];
        if (!back) {
            place.lay(now, lines, seen);
            return true;
        }
        if (!place.laid) {
            return false;
        }
        now.copy(place.state);
        lines.copy(place.lines);
        seen.copy(place.seen);
        history.clear();
        return true;
    }

    public int count(int what) {
        switch (what) {
            case 0: return told.matters;
            case 1: return told.knife;
            case 2: return told.adds;
            case 3: return now.year;
            case 4: return now.pot;
            case 5: return sumOf(now.sour);
            case 6: return sumOf(now.coats);
            case 7: return lines.size;
            case 8: return seen.size;
            case 9: return history.size;
            case 10: return tape.length;
            default: return NONE;
        }
    }

    private int sumOf(int[] row) {
        int sum = 0;
        for (int m = 0; m < told.matters && m < row.length; m++) {
            sum += row[m];
        }
        return sum;
    }

    private boolean isMatter(int matter) {
        return matter >= 0 && matter < told.matters;
    }

    private static boolean within(int value, int low, int high) {
        return value >= low && value <= high;
    }

    private static int bit(int bits, int place) {
        return bits >> place & 1;
    }

    /** The E of takes, its steps put in the order in which they are reckoned: parts ahead of what joins them. */
    private static final class Law {
        /** Steps below it are numbers; it and a word's number, or it and a sign, are all the others. */
        static final int OPS = 10000;
        /** Far above what a law can need: four values wait in each of five levels at most. */
        static final int WAITING = 64;

        final int[] steps = new int[MAX_SIGNS];
        final int[] stack = new int[WAITING];
        int size;
        int top;

        void clear() {
            size = 0;
        }

        void add(int step) {
            if (size < steps.length) {
                steps[size] = step;
                size++;
            }
        }

        int worth(int left, int coats, int age, int thick) {
            top = 0;
            for (int i = 0; i < size; i++) {
                int op = steps[i] - OPS;
                switch (op) {
                    case LEFT: push(left); break;
                    case COATS: push(coats); break;
                    case AGE: push(age); break;
                    case THICK: push(thick); break;
                    case NOT: push(pop() == 0 ? 1 : 0); break;
                    default:
                        if (op < 0) {
                            push(steps[i]);
                        } else {
                            int second = pop();
                            push(joined(op, pop(), second));
                        }
                }
            }
            return pop();
        }

        private void push(int value) {
            if (top < stack.length) {
                stack[top] = value;
                top++;
            }
        }

        private int pop() {
            if (top <= 0) {
                return 0;
            }
            top--;
            return stack[top];
        }

        private static int joined(int op, int first, int second) {
            switch (op) {
                case '+': return first + second;
                case '-': return first - second;
                case '*': return first * second;
                case '<': return first < second ? 1 : 0;
                case '=': return first == second ? 1 : 0;
                case AND: return first != 0 && second != 0 ? 1 : 0;
                default: return first != 0 || second != 0 ? 1 : 0;
            }
        }
    }

    /** What a PAST tells: it never changes once it is the PAST. */
    private static final class Past {
        final long[] name = new long[MAX_MATTERS];
        final int[] kind = new int[MAX_MATTERS];
        final int[] birth = new int[MAX_MATTERS];
        final int[] sour = new int[MAX_MATTERS];
        final int[] led = new int[MAX_MATTERS];
        final Law law = new Law();
        int matters;
        int knife;
        int pot;
        int adds;
        /** The words knife, pot, adds, takes that were told, as bits. */
        int settings;

        void clear() {
            matters = 0;
            knife = 3;
            pot = 50;
            adds = 4;
            settings = 0;
            law.clear();
            law.add(Law.OPS + THICK);
        }

        int find(long word) {
            for (int m = 0; m < matters; m++) {
                if (name[m] == word) {
                    return m;
                }
            }
            return NONE;
        }

        int everyone() {
            return (1 << matters) - 1;
        }

        int price(int matter) {
            return kind[matter] == IS_BATTLE ? 2 * knife : knife;
        }

        int sourAfterCoat(int matter, int left, int coats, int year) {
            if (kind[matter] == IS_WINTER) {
                return left;
            }
            int worth = law.worth(left, coats, 100 - birth[matter] + year, knife);
            int taken = Math.max(0, Math.min(MAX_TAKEN, worth));
            return Math.max(0, left - taken);
        }

        int coatsAfterCoat(int matter, int coats) {
            return kind[matter] == IS_WINTER ? coats : coats + 1;
        }

        int sourAfterYear(int matter, int left, int coats) {
            if (coats == 0) {
                return left;
            }
            switch (kind[matter]) {
                case IS_BATTLE: return Math.min(sour[matter], left + 1);
                case IS_WEDDING: return Math.max(0, left - 1);
                default: return left;
            }
        }

        int potAfterYear(int mustard) {
            return Math.min(MAX_POT, mustard + adds);
        }

        int rightBy(int meant) {
            int bits = meant;
            for (int pass = 0; pass < matters; pass++) {
                for (int m = 0; m < matters; m++) {
                    if ((led[m] & bits) != 0) {
                        bits |= 1 << m;
                    }
                }
            }
            return bits;
        }

        int fruitBits(int matter) {
            int bits = led[matter];
            for (int pass = 0; pass < matters; pass++) {
                for (int m = 0; m < matters; m++) {
                    if (bit(bits, m) == 1) {
                        bits |= led[m];
                    }
                }
            }
            return bits;
        }

        int causeBits(int matter) {
            return rightBy(1 << matter) & ~(1 << matter);
        }

        int rootBits() {
            int fruits = 0;
            for (int m = 0; m < matters; m++) {
                fruits |= led[m];
            }
            return everyone() & ~fruits;
        }

        int elderBits(int matter) {
            int bits = 0;
            for (int m = 0; m < matters; m++) {
                if (birth[m] < birth[matter]) {
                    bits |= 1 << m;
                }
            }
            return bits;
        }

        /** Each matter led to later ones alone, so no way is longer than there are matters. */
        private int waysTo(int from, int to, int depth) {
            if (from == to) {
                return 1;
            }
            int sum = 0;
            for (int m = 0; m < matters && depth < MAX_MATTERS; m++) {
                if (bit(led[from], m) == 1) {
                    sum += waysTo(m, to, depth + 1);
                }
            }
            return sum;
        }

        private int storyFrom(int from, int depth) {
            int longest = 0;
            for (int m = 0; m < matters && depth < MAX_MATTERS; m++) {
                if (bit(led[from], m) == 1) {
                    longest = Math.max(longest, storyFrom(m, depth + 1));
                }
            }
            return longest + 1;
        }

        int widestGap() {
            int widest = 0;
            for (int m = 0; m < matters; m++) {
                widest = Math.max(widest, nextBirth(birth[m]) - birth[m]);
            }
            return widest;
        }

        /** The year itself, if nothing is of a later one. */
        private int nextBirth(int year) {
            int next = year;
            for (int m = 0; m < matters; m++) {
                if (birth[m] > year && (next == year || birth[m] < next)) {
                    next = birth[m];
                }
            }
            return next;
        }
    }

    /** How it is: all that spreading, eating and the years change. */
    private static final class State {
        final int[] sour = new int[MAX_MATTERS];
        final int[] coats = new int[MAX_MATTERS];
        int pot;
        int year;

        void begin(Past past) {
            for (int m = 0; m < MAX_MATTERS; m++) {
                sour[m] = past.sour[m];
                coats[m] = 0;
            }
            pot = past.pot;
            year = 0;
        }

        void copy(State from) {
            for (int m = 0; m < MAX_MATTERS; m++) {
                sour[m] = from.sour[m];
                coats[m] = from.coats[m];
            }
            pot = from.pot;
            year = from.year;
        }

        boolean canSpread(Past past, int matter) {
            return pot >= past.price(matter);
        }

        void putOn(Past past, int matter) {
            pot -= past.price(matter);
            sour[matter] = past.sourAfterCoat(matter, sour[matter], coats[matter], year);
            coats[matter] = past.coatsAfterCoat(matter, coats[matter]);
        }

        void takeOff(Past past, int matter) {
            coats[matter] = 0;
            sour[matter] = past.sour[matter];
        }

        void pass(Past past) {
            for (int m = 0; m < past.matters; m++) {
                sour[m] = past.sourAfterYear(m, sour[m], coats[m]);
            }
            pot = past.potAfterYear(pot);
            year++;
        }

        /** Whether it could be. */
        boolean follow(Past past, int verb, int matter) {
            if (verb == YEAR) {
                pass(past);
                return true;
            }
            if (matter < 0 || matter >= past.matters) {
                return false;
            }
            if (verb == SPREAD && canSpread(past, matter)) {
                putOn(past, matter);
                return true;
            }
            if (verb == EAT && coats[matter] > 0) {
                takeOff(past, matter);
                return true;
            }
            return false;
        }

        int meantBits(Past past) {
            int bits = 0;
            for (int m = 0; m < past.matters; m++) {
                if (sour[m] == 0) {
                    bits |= 1 << m;
                }
            }
            return bits;
        }
    }

    /** How it was ahead of each of the last things done; the oldest one gives its place to the newest. */
    private static final class History {
        final State[] states = new State[MAX_UNDO];
        int size;
        int next;

        History() {
            for (int i = 0; i < states.length; i++) {
                states[i] = new State();
            }
        }

        void clear() {
            size = 0;
            next = 0;
        }

        void keep(State state) {
            states[next].copy(state);
            next = next + 1 < states.length ? next + 1 : 0;
            size = Math.min(size + 1, states.length);
        }

        boolean giveBack(State state) {
            if (size == 0) {
                return false;
            }
            next = next > 0 ? next - 1 : states.length - 1;
            size--;
            state.copy(states[next]);
            return true;
        }
    }

    /** The lines of a ROUND: what is done, by the number of its word, and to whom. */
    private static final class Lines {
        final int[] verb = new int[MAX_LINES];
        final int[] whom = new int[MAX_LINES];
        int size;

        void clear() {
            size = 0;
        }

        void add(int word, int matter) {
            if (size < verb.length) {
                verb[size] = word;
                whom[size] = matter;
                size++;
            }
        }

        void copy(Lines from) {
            size = from.size;
            for (int i = 0; i < size; i++) {
                verb[i] = from.verb[i];
                whom[i] = from.whom[i];
            }
        }
    }

    /** What is SEEN of the unknown matter. */
    private static final class Seen {
        final int[] coats = new int[MAX_SEEN];
        final int[] sour = new int[MAX_SEEN];
        final boolean[] less = new boolean[MAX_SEEN];
        int size;

        boolean add(int more, int bound, boolean noSourer) {
            if (size >= coats.length) {
                return false;
            }
            coats[size] = more;
            sour[size] = bound;
            less[size] = noSourer;
            size++;
            return true;
        }

        void copy(Seen from) {
            size = from.size;
            for (int i = 0; i < size; i++) {
                coats[i] = from.coats[i];
                sour[i] = from.sour[i];
                less[i] = from.less[i];
            }
        }
    }

    private static final class Mark {
        final State state = new State();
        final Lines lines = new Lines();
        final Seen seen = new Seen();
        boolean laid;

        void lay(State nowState, Lines nowLines, Seen nowSeen) {
            state.copy(nowState);
            lines.copy(nowLines);
            seen.copy(nowSeen);
            laid = true;
        }
    }

    /** The TAPE, the token that is looked at, and the first FAULT, behind which nothing is read. */
    private static final class Reader {
        static final int END = 0;
        static final int NO_TOKEN = 1;
        static final int WORD = 2;
        static final int NUMBER = 3;
        static final int LONGEST_WORD = 8;
        static final int LONGEST_NUMBER = 4;

        final char[] signs = new char[MAX_SIGNS];
        int length;
        int at;
        int place;
        /** One of those above, or the sign that the token is. */
        int type;
        int number;
        /** The letters of a word, five bits each: as a number it needs no text of its own. */
        long word;
        int key;
        int fault;

        void addBytes(long bytes) {
            for (int shift = 56; shift >= 0; shift -= 8) {
                addSign((int) (bytes >>> shift) & 255);
            }
        }

        private void addSign(int sign) {
            if ((sign == 10 || sign >= 32 && sign <= 126) && length < signs.length) {
                signs[length] = (char) sign;
                length++;
            }
        }

        void open() {
            at = 0;
            fault = 0;
            advance();
        }

        /** The FAULT, or 0; what reads the tape takes it. */
        int close() {
            length = 0;
            return fault;
        }

        void fail(int kind) {
            if (fault == 0) {
                fault = kind + 16 * place;
            }
        }

        boolean isType(int wanted) {
            return fault == 0 && type == wanted;
        }

        boolean isKey(int wanted) {
            return isType(WORD) && key == wanted;
        }

        /** The number of the word that stands here, NO_KEY without one. */
        int keyHere() {
            return isType(WORD) ? key : NO_KEY;
        }

        boolean isName() {
            return isType(WORD) && key >= LEFT;
        }

        void takeKey(int wanted) {
            if (isKey(wanted)) {
                advance();
            } else {
                fail(WRONG_TOKEN);
            }
        }

        void takeSign(int wanted) {
            if (isType(wanted)) {
                advance();
            } else {
                fail(WRONG_TOKEN);
            }
        }

        int takeNumber(int low, int high) {
            if (!isType(NUMBER)) {
                fail(WRONG_TOKEN);
                return low;
            }
            int value = number;
            if (!within(value, low, high)) {
                fail(WRONG_NUMBER);
                return low;
            }
            advance();
            return value;
        }

        void advance() {
            while (at < length && (signAt(at) == ' ' || signAt(at) == '\n')) {
                at++;
            }
            place = at;
            int sign = signAt(at);
            if (at >= length) {
                type = END;
            } else if (isLetter(sign)) {
                readWord();
            } else if (isDigit(sign)) {
                readNumber();
            } else {
                type = isSign(sign) ? sign : NO_TOKEN;
                at++;
            }
        }

        private void readWord() {
            word = 0;
            for (int i = 0; i < MAX_SIGNS && isLetter(signAt(at)); i++) {
                word = word * 32 + (signAt(at) - 'a' + 1);
                at++;
            }
            type = at - place <= LONGEST_WORD ? WORD : NO_TOKEN;
            key = keyOf(word);
        }

        private void readNumber() {
            number = 0;
            for (int i = 0; i < MAX_SIGNS && isDigit(signAt(at)); i++) {
                number = number * 10 + (signAt(at) - '0');
                at++;
            }
            type = at - place <= LONGEST_NUMBER ? NUMBER : NO_TOKEN;
        }

        private int signAt(int i) {
            return i >= 0 && i < length && i < signs.length ? signs[i] : 0;
        }

        private static boolean isLetter(int sign) {
            return sign >= 'a' && sign <= 'z';
        }

        private static boolean isDigit(int sign) {
            return sign >= '0' && sign <= '9';
        }

        private static boolean isSign(int sign) {
            switch (sign) {
                case '(': case ')': case '<': case '=': case '+': case '-': case '*': case ';': return true;
                default: return false;
            }
        }

        private static int keyOf(long wanted) {
            int place = 0;
            long letters = 0;
            for (int i = 0; i < WORDS.length(); i++) {
                char sign = WORDS.charAt(i);
                if (sign != ' ') {
                    letters = letters * 32 + (sign - 'a' + 1);
                } else if (letters == wanted) {
                    return place;
                } else {
                    place++;
                    letters = 0;
                }
            }
            return NO_KEY;
        }
    }

    /** Reads a PAST or a ROUND, token by token from the left, up to the first FAULT. */
    private static final class Parser {
        final Reader in;

        Parser(Reader in) {
            this.in = in;
        }

        int readPast(Past past) {
            past.clear();
            in.open();
            for (int i = 0; i <= MAX_SIGNS && in.fault == 0 && in.type != Reader.END; i++) {
                switch (in.keyHere()) {
                    case MATTER: readMatter(past); break;
                    case LED: readLed(past); break;
                    case KNIFE: case POT: case ADDS: case TAKES: readSetting(past, in.keyHere()); break;
                    default: in.fail(WRONG_TOKEN);
                }
                in.takeSign(';');
            }
            return in.close();
        }

        private void readMatter(Past past) {
            int m = past.matters;
            if (m >= MAX_MATTERS) {
                in.fail(TOO_MANY);
                return;
            }
            in.advance();
            past.name[m] = takeNewName(past);
            past.kind[m] = takeKind();
            in.takeKey(IN);
            past.birth[m] = in.takeNumber(0, MAX_BIRTH);
            in.takeKey(SOUR);
            past.sour[m] = in.takeNumber(0, MAX_SOUR);
            past.led[m] = 0;
            past.matters = m + 1;
        }

        private long takeNewName(Past past) {
            if (!in.isName()) {
                in.fail(WRONG_TOKEN);
                return 0;
            }
            long name = in.word;
            if (past.find(name) != NONE) {
                in.fail(TOLD_ALREADY);
                return 0;
            }
            in.advance();
            return name;
        }

        private int takeKind() {
            int kind = in.keyHere() - PLAIN;
            if (!within(kind, 0, WINTER - PLAIN)) {
                in.fail(WRONG_TOKEN);
                return 0;
            }
            in.advance();
            return kind;
        }

        /** The matter whose name stands here, which is not taken yet; NONE behind a FAULT. */
        private int matterHere(Past past) {
            if (!in.isName()) {
                in.fail(WRONG_TOKEN);
                return NONE;
            }
            int matter = past.find(in.word);
            if (matter == NONE) {
                in.fail(UNKNOWN_NAME);
            }
            return matter;
        }

        private void readLed(Past past) {
            in.advance();
            int first = matterHere(past);
            if (first == NONE) {
                return;
            }
            in.advance();
            int second = matterHere(past);
            if (second == NONE) {
                return;
            }
            if (past.birth[second] <= past.birth[first] || bit(past.led[first], second) == 1) {
                in.fail(TOLD_ALREADY);
                return;
            }
            past.led[first] |= 1 << second;
            in.advance();
        }

        private void readSetting(Past past, int key) {
            if (bit(past.settings, key) == 1) {
                in.fail(TOLD_ALREADY);
                return;
            }
            past.settings |= 1 << key;
            in.advance();
            switch (key) {
                case KNIFE: past.knife = in.takeNumber(1, MAX_KNIFE); break;
                case POT: past.pot = in.takeNumber(0, MAX_POT); break;
                case ADDS: past.adds = in.takeNumber(0, MAX_ADDS); break;
                default:
                    past.law.clear();
                    readE(past.law, 0);
            }
        }

        int readRound(Lines lines, Past past) {
            lines.clear();
            in.open();
            for (int i = 0; i <= MAX_SIGNS && in.fault == 0 && in.type != Reader.END; i++) {
                readRoundLine(lines, past);
                in.takeSign(';');
            }
            return in.close();
        }

        private void readRoundLine(Lines lines, Past past) {
            int verb = in.keyHere();
            if (!within(verb, SPREAD, YEAR)) {
                in.fail(WRONG_TOKEN);
                return;
            }
            if (lines.size >= MAX_LINES) {
                in.fail(TOO_MANY);
                return;
            }
            in.advance();
            if (verb == YEAR) {
                lines.add(verb, NONE);
                return;
            }
            int matter = matterHere(past);
            if (matter != NONE) {
                lines.add(verb, matter);
                in.advance();
            }
        }

        private void readE(Law law, int depth) {
            readTest(law, depth);
            for (int i = 0; i < MAX_SIGNS && (in.isKey(AND) || in.isKey(OR)); i++) {
                int op = in.key;
                in.advance();
                readTest(law, depth);
                law.add(Law.OPS + op);
            }
        }

        private void readTest(Law law, int depth) {
            readSum(law, depth);
            if (in.isType('<') || in.isType('=')) {
                int op = in.type;
                in.advance();
                readSum(law, depth);
                law.add(Law.OPS + op);
            }
        }

        private void readSum(Law law, int depth) {
            readProduct(law, depth);
            for (int i = 0; i < MAX_SIGNS && (in.isType('+') || in.isType('-')); i++) {
                int op = in.type;
                in.advance();
                readProduct(law, depth);
                law.add(Law.OPS + op);
            }
        }

        private void readProduct(Law law, int depth) {
            readPart(law, depth);
            for (int i = 0; i < MAX_SIGNS && in.isType('*'); i++) {
                in.advance();
                readPart(law, depth);
                law.add(Law.OPS + '*');
            }
        }

        private void readPart(Law law, int depth) {
            boolean isFact = within(in.keyHere(), LEFT, THICK);
            if (!isFact && !in.isType(Reader.NUMBER) && !in.isKey(NOT) && !in.isType('(')) {
                in.fail(WRONG_TOKEN);
            } else if (depth >= MAX_DEPTH) {
                in.fail(TOO_MANY);
            } else if (in.isType('(')) {
                in.advance();
                readE(law, depth + 1);
                in.takeSign(')');
            } else if (in.isKey(NOT)) {
                in.advance();
                readPart(law, depth + 1);
                law.add(Law.OPS + NOT);
            } else {
                law.add(isFact ? Law.OPS + in.key : in.number);
                in.advance();
            }
        }
    }
}
