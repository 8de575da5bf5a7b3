import java.math.BigInteger;
import java.util.ArrayDeque;
import java.util.ArrayList;
import java.util.Comparator;
import java.util.Deque;
import java.util.HashMap;
import java.util.List;
import java.util.Map;
import java.util.NoSuchElementException;
import java.util.Set;
import java.util.TreeSet;

/**
 * The document once more, written apart from the class and with other means (texts, lists, sets, trees,
 * everything tried out), so that a slip in one of the two shows as a difference.
 */
final class PlainModel {
    private static final Set<String> RESERVED = Set.of("matter", "in", "sour", "led", "knife", "pot", "adds", "takes",
            "spread", "eat", "year", "plain", "battle", "wedding", "winter", "not", "and", "or");
    private static final List<String> KINDS = List.of("plain", "battle", "wedding", "winter");
    private static final List<String> FACTS = List.of("left", "coats", "age", "thick");

    interface Law {
        int of(int[] facts);
    }

    record Token(String text, int place, char sort) {
    }

    static final class Fault extends RuntimeException {
        private static final long serialVersionUID = 1L;
        final int code;

        Fault(int kind, Token at) {
            code = kind + 16 * at.place;
        }
    }

    record Matter(String name, int kind, int year, int sour) {
    }

    record Setting(List<Matter> matters, Set<List<Integer>> led, Map<String, Integer> numbers, Law law) {
        int knife() {
            return numbers.getOrDefault("knife", 3);
        }

        int pot() {
            return numbers.getOrDefault("pot", 50);
        }

        int adds() {
            return numbers.getOrDefault("adds", 4);
        }
    }

    record Now(List<Integer> sour, List<Integer> coats, int pot, int year) {
    }

    record Line(String verb, int who) {
    }

    record Sight(int coats, int sour, boolean less) {
    }

    record Kept(Now now, List<Line> round, List<Sight> seen) {
    }

    private StringBuilder tape = new StringBuilder();
    private Setting told = new Setting(List.of(), Set.of(), Map.of(), f -> f[3]);
    private Now now = begin();
    private List<Line> round = List.of();
    private List<Sight> seen = new ArrayList<>();
    private Deque<Now> before = new ArrayDeque<>();
    private Map<Integer, Kept> marks = new HashMap<>();

    // ---- reading

    int feed(long a, long b, long c) {
        for (long w : new long[] {a, b, c}) {
            for (byte sign : BigInteger.valueOf(w).and(BigInteger.ONE.shiftLeft(64).subtract(BigInteger.ONE))
                    .or(BigInteger.ONE.shiftLeft(64)).toByteArray()) {
                tape.append((char) (sign & 255));
            }
            // the leading 1 that kept the zeros is no sign, as 1 is none
        }
        String clean = tape.toString().replaceAll("[^\n -~]", "");
        tape = new StringBuilder(clean.length() > 1000 ? clean.substring(0, 1000) : clean);
        return tape.length();
    }

    private final class Tokens {
        final List<Token> list = new ArrayList<>();
        int next = 0;

        Tokens(String text) {
            java.util.regex.Matcher m = java.util.regex.Pattern.compile("([a-z]+)|([0-9]+)|([ \n]+)|(.)").matcher(text);
            while (m.find()) {
                if (m.group(1) != null) {
                    list.add(new Token(m.group(), m.start(), m.group().length() <= 8 ? 'w' : '?'));
                } else if (m.group(2) != null) {
                    list.add(new Token(m.group(), m.start(), m.group().length() <= 4 ? 'n' : '?'));
                } else if (m.group(4) != null) {
                    list.add(new Token(m.group(), m.start(), "()<=+-*;".contains(m.group()) ? 's' : '?'));
                }
            }
            list.add(new Token("", text.length(), 'e'));
        }

        Token peek() {
            return list.get(next);
        }

        boolean at(String text) {
            return peek().sort != '?' && peek().text.equals(text) && peek().sort != 'e';
        }

        Token want(boolean fits) {
            if (!fits) {
                throw new Fault(1, peek());
            }
            return list.get(next++);
        }

        Token want(String text) {
            return want(at(text));
        }

        Token name() {
            return want(peek().sort == 'w' && !RESERVED.contains(peek().text));
        }

        int number(int low, int high) {
            Token t = want(peek().sort == 'n');
            int n = Integer.parseInt(t.text);
            if (n < low || n > high) {
                throw new Fault(4, t);
            }
            return n;
        }
    }

    private int find(List<Matter> matters, Token name) {
        for (int i = 0; i < matters.size(); i++) {
            if (matters.get(i).name.equals(name.text)) {
                return i;
            }
        }
        throw new Fault(2, name);
    }

    int past() {
        Tokens in = takeTape();
        try {
            told = readPast(in);
        } catch (Fault f) {
            return f.code;
        }
        now = begin();
        round = List.of();
        seen = new ArrayList<>();
        before.clear();
        marks.clear();
        return 0;
    }

    private Tokens takeTape() {
        Tokens in = new Tokens(tape.toString());
        tape = new StringBuilder();
        return in;
    }

    private Setting readPast(Tokens in) {
        List<Matter> matters = new ArrayList<>();
        Set<List<Integer>> led = new TreeSet<>(Comparator.comparing(List::toString));
        Map<String, Integer> numbers = new HashMap<>();
        Law law = null;
        while (in.peek().sort != 'e') {
            Token verb = in.want(in.at("matter") || in.at("led") || in.at("knife") || in.at("pot") || in.at("adds") || in.at("takes"));
            if (verb.text.equals("matter")) {
                if (matters.size() == 7) {
                    throw new Fault(5, verb);
                }
                Token name = in.name();
                if (matters.stream().anyMatch(x -> x.name.equals(name.text))) {
                    throw new Fault(3, name);
                }
                int kind = KINDS.indexOf(in.want(in.peek().sort == 'w' && KINDS.contains(in.peek().text)).text);
                in.want("in");
                int year = in.number(0, 99);
                in.want("sour");
                matters.add(new Matter(name.text, kind, year, in.number(0, 40)));
            } else if (verb.text.equals("led")) {
                int first = find(matters, in.name());
                Token name = in.name();
                int second = find(matters, name);
                if (matters.get(second).year <= matters.get(first).year || !led.add(List.of(first, second))) {
                    throw new Fault(3, name);
                }
            } else if (verb.text.equals("takes")) {
                if (law != null) {
                    throw new Fault(3, verb);
                }
                law = readE(in, 0);
            } else {
                if (numbers.containsKey(verb.text)) {
                    throw new Fault(3, verb);
                }
                int low = verb.text.equals("knife") ? 1 : 0;
                int high = verb.text.equals("knife") ? 9 : verb.text.equals("pot") ? 200 : 20;
                numbers.put(verb.text, in.number(low, high));
            }
            in.want(";");
        }
        return new Setting(matters, led, numbers, law == null ? f -> f[3] : law);
    }

    private Law readE(Tokens in, int within) {
        Law sum = readTest(in, within);
        while (in.at("and") || in.at("or")) {
            boolean both = in.want(true).text.equals("and");
            Law first = sum;
            Law second = readTest(in, within);
            sum = f -> {
                boolean a = first.of(f) != 0;
                boolean b = second.of(f) != 0;
                return (both ? a && b : a || b) ? 1 : 0;
            };
        }
        return sum;
    }

    private Law readTest(Tokens in, int within) {
        Law first = readSum(in, within);
        if (in.at("<")) {
            in.want("<");
            Law second = readSum(in, within);
            return f -> first.of(f) < second.of(f) ? 1 : 0;
        }
        if (in.at("=")) {
            in.want("=");
            Law second = readSum(in, within);
            return f -> first.of(f) == second.of(f) ? 1 : 0;
        }
        return first;
    }

    private Law readSum(Tokens in, int within) {
        Law sum = readProduct(in, within);
        while (in.at("+") || in.at("-")) {
            int sign = in.want(true).text.equals("+") ? 1 : -1;
            Law first = sum;
            Law second = readProduct(in, within);
            sum = f -> first.of(f) + sign * second.of(f);
        }
        return sum;
    }

    private Law readProduct(Tokens in, int within) {
        Law product = readPart(in, within);
        while (in.at("*")) {
            in.want("*");
            Law first = product;
            Law second = readPart(in, within);
            product = f -> first.of(f) * second.of(f);
        }
        return product;
    }

    private Law readPart(Tokens in, int within) {
        Token t = in.want(in.peek().sort == 'n' || in.peek().sort == 'w' && FACTS.contains(in.peek().text)
                || in.at("not") || in.at("("));
        if (within == 5) {
            throw new Fault(5, t);
        }
        if (t.sort == 'n') {
            int n = Integer.parseInt(t.text);
            return f -> n;
        }
        if (t.text.equals("not")) {
            Law part = readPart(in, within + 1);
            return f -> part.of(f) == 0 ? 1 : 0;
        }
        if (t.text.equals("(")) {
            Law all = readE(in, within + 1);
            in.want(")");
            return all;
        }
        int fact = FACTS.indexOf(t.text);
        return f -> f[fact];
    }

    int round() {
        Tokens in = takeTape();
        List<Line> lines = new ArrayList<>();
        try {
            while (in.peek().sort != 'e') {
                Token verb = in.want(in.at("spread") || in.at("eat") || in.at("year"));
                if (lines.size() == 40) {
                    throw new Fault(5, verb);
                }
                lines.add(new Line(verb.text, verb.text.equals("year") ? -1 : find(told.matters, in.name())));
                in.want(";");
            }
        } catch (Fault f) {
            return f.code;
        }
        round = lines;
        return 0;
    }

    // ---- how it is

    private Now begin() {
        List<Integer> sour = told.matters.stream().map(Matter::sour).toList();
        return new Now(sour, sour.stream().map(x -> 0).toList(), told.pot(), 0);
    }

    private int n() {
        return told.matters.size();
    }

    private boolean others(int m) {
        return m < 0 || m >= n();
    }

    private boolean is(int m, String kind) {
        return told.matters.get(m).kind == KINDS.indexOf(kind);
    }

    private static List<Integer> with(List<Integer> list, int at, int value) {
        List<Integer> copy = new ArrayList<>(list);
        copy.set(at, value);
        return copy;
    }

    private int price(int m) {
        return is(m, "battle") ? 2 * told.knife() : told.knife();
    }

    /** Null if it can't be. */
    private Now spread(Now s, int m) {
        if (s.pot < price(m)) {
            return null;
        }
        return coat(new Now(s.sour, s.coats, s.pot - price(m), s.year), m);
    }

    private Now coat(Now s, int m) {
        if (is(m, "winter")) {
            return s;
        }
        int e = told.law.of(new int[] {s.sour.get(m), s.coats.get(m), 100 - told.matters.get(m).year + s.year, told.knife()});
        int less = e < 0 ? 0 : e > 20 ? 20 : e;
        return new Now(with(s.sour, m, Math.max(0, s.sour.get(m) - less)), with(s.coats, m, s.coats.get(m) + 1), s.pot, s.year);
    }

    private Now eat(Now s, int m) {
        if (s.coats.get(m) == 0) {
            return null;
        }
        return new Now(with(s.sour, m, told.matters.get(m).sour), with(s.coats, m, 0), s.pot, s.year);
    }

    private Now year(Now s) {
        List<Integer> sour = new ArrayList<>(s.sour);
        for (int m = 0; m < n(); m++) {
            if (s.coats.get(m) > 0 && is(m, "battle") && sour.get(m) < told.matters.get(m).sour) {
                sour.set(m, sour.get(m) + 1);
            }
            if (s.coats.get(m) > 0 && is(m, "wedding") && sour.get(m) > 0) {
                sour.set(m, sour.get(m) - 1);
            }
        }
        return new Now(sour, s.coats, Math.min(200, s.pot + told.adds()), s.year + 1);
    }

    private Now later(Now s, int years) {
        for (int i = 0; i < years; i++) {
            s = year(s);
        }
        return s;
    }

    private static int bits(Set<Integer> set) {
        return set.stream().mapToInt(m -> 1 << m).sum();
    }

    private Set<Integer> meantIn(Now s) {
        Set<Integer> set = new TreeSet<>();
        for (int m = 0; m < n(); m++) {
            if (s.sour.get(m) == 0) {
                set.add(m);
            }
        }
        return set;
    }

    private boolean isRight(int m, Set<Integer> meant) {
        if (meant.contains(m)) {
            return true;
        }
        for (List<Integer> two : told.led) {
            if (two.get(0) == m && isRight(two.get(1), meant)) {
                return true;
            }
        }
        return false;
    }

    private Set<Integer> rightBy(Set<Integer> meant) {
        Set<Integer> set = new TreeSet<>();
        for (int m = 0; m < n(); m++) {
            if (isRight(m, meant)) {
                set.add(m);
            }
        }
        return set;
    }

    int matter(int m, int what) {
        if (others(m) || what < 0 || what > 6) {
            return -1;
        }
        return new int[] {told.matters.get(m).kind, told.matters.get(m).year, now.sour.get(m), now.coats.get(m),
            meantIn(now).contains(m) ? 1 : 0, isRight(m, meantIn(now)) ? 1 : 0,
            told.led.stream().filter(two -> two.get(0) == m).mapToInt(two -> 1 << two.get(1)).sum()}[what];
    }

    private boolean done(Now then) {
        if (then == null) {
            return false;
        }
        before.push(now);
        if (before.size() > 16) {
            before.removeLast();
        }
        now = then;
        return true;
    }

    int spread(int m) {
        return !others(m) && done(spread(now, m)) ? now.sour.get(m) : -1;
    }

    int eat(int m) {
        return !others(m) && done(eat(now, m)) ? now.sour.get(m) : -1;
    }

    int year() {
        done(year(now));
        return meantIn(now).size();
    }

    boolean undo() {
        if (before.isEmpty()) {
            return false;
        }
        now = before.pop();
        return true;
    }

    int judged(int what) {
        if (what < 0 || what > 2) {
            return -2;
        }
        int[] answer = {-1, -1, 0};
        Now s = begin();
        for (int i = 0; i < round.size(); i++) {
            Line l = round.get(i);
            Now then = l.verb.equals("year") ? year(s) : l.verb.equals("eat") ? eat(s, l.who) : spread(s, l.who);
            if (then == null && answer[0] < 0) {
                answer[0] = i;
            }
            s = then == null ? s : then;
            if (answer[1] < 0 && rightBy(meantIn(s)).size() == n()) {
                answer[1] = i;
            }
        }
        answer[2] = meantIn(s).size();
        return answer[what];
    }

    int meant() {
        return bits(meantIn(now));
    }

    int right() {
        return bits(rightBy(meantIn(now)));
    }

    // ---- made right

    int wants(int m) {
        if (others(m)) {
            return -1;
        }
        Now s = now;
        int coats = 0;
        while (s.sour.get(m) != 0 && coats <= 40) {
            s = coat(s, m);
            coats++;
        }
        return coats > 40 ? -1 : coats;
    }

    int cost(int m) {
        return wants(m) < 0 ? -1 : wants(m) * price(m);
    }

    int cheap(int m, int what) {
        if (others(m) || what < 0 || what > 1) {
            return -2;
        }
        if (isRight(m, meantIn(now))) {
            return what == 0 ? 0 : m;
        }
        int best = -1;
        for (int by = 0; by < n(); by++) {
            if (cost(by) >= 0 && isRight(m, Set.of(by)) && (best < 0 || cost(by) < cost(best))) {
                best = by;
            }
        }
        return best < 0 ? -2 : what == 0 ? cost(best) : best;
    }

    private List<int[]> plans() {
        List<int[]> plans = new ArrayList<>();
        int[] costs = new int[n()];
        for (int m = 0; m < n(); m++) {
            costs[m] = cost(m);
        }
        for (int set = 0; set < 1 << n(); set++) {
            int sum = 0;
            boolean can = true;
            for (int m = 0; m < n(); m++) {
                if ((set >> m & 1) == 1) {
                    can &= costs[m] >= 0;
                    sum += costs[m];
                }
            }
            if (can) {
                int whole = set | meant();
                plans.add(new int[] {-Integer.bitCount(whole), sum, whole});
            }
        }
        return plans;
    }

    int most(int mustard, int what) {
        if (mustard < 0 || mustard > 200 || what < 0 || what > 2) {
            return -1;
        }
        int[] best = plans().stream().filter(p -> p[1] <= mustard).min(Comparator.<int[]>comparingInt(p -> p[0])
                .thenComparingInt(p -> p[1]).thenComparingInt(p -> p[2])).get();
        return what == 0 ? -best[0] : best[what];
    }

    private Set<Integer> setOf(int bits) {
        Set<Integer> set = new TreeSet<>();
        for (int m = 0; m < n(); m++) {
            if ((bits >> m & 1) == 1) {
                set.add(m);
            }
        }
        return set;
    }

    int all() {
        return plans().stream().filter(p -> rightBy(setOf(p[2])).size() == n()).mapToInt(p -> p[1]).min().orElse(-1);
    }

    int lacks() {
        return all() < 0 ? -1 : all() <= now.pot ? 0 : all() - now.pot;
    }

    int easiest() {
        int best = -1;
        for (int m = n() - 1; m >= 0; m--) {
            if (now.sour.get(m) > 0 && cost(m) >= 0 && (best < 0 || cost(m) <= cost(best))) {
                best = m;
            }
        }
        return best;
    }

    // ---- years ahead

    int later(int m, int years) {
        return others(m) || years < 0 || years > 60 ? -1 : later(now, years).sour.get(m);
    }

    int again(int m) {
        if (!others(m) && now.sour.get(m) == 0) {
            for (int y = 1; y <= 60; y++) {
                if (later(m, y) > 0) {
                    return y;
                }
            }
        }
        return -1;
    }

    int heals(int m) {
        for (int y = 0; y <= 60; y++) {
            if (later(m, y) == 0) {
                return y;
            }
        }
        return -1;
    }

    int fills(int mustard) {
        if (mustard >= 0 && mustard <= 200) {
            for (int y = 0; y <= 60; y++) {
                if (later(now, y).pot >= mustard) {
                    return y;
                }
            }
        }
        return -1;
    }

    int dinners(int years) {
        if (years < 1 || years > 60) {
            return -1;
        }
        int sum = 0;
        for (int y = 1; y <= years; y++) {
            sum += meantIn(later(now, y)).size();
        }
        return sum;
    }

    // ---- what led to what

    private List<List<Integer>> storiesFrom(int m) {
        List<List<Integer>> stories = new ArrayList<>();
        stories.add(List.of(m));
        for (List<Integer> two : told.led) {
            if (two.get(0) == m) {
                for (List<Integer> rest : storiesFrom(two.get(1))) {
                    List<Integer> whole = new ArrayList<>(List.of(m));
                    whole.addAll(rest);
                    stories.add(whole);
                }
            }
        }
        return stories;
    }

    int ways(int a, int b) {
        return others(a) || others(b) ? -1 : (int) storiesFrom(a).stream().filter(s -> s.get(s.size() - 1) == b).count();
    }

    int fruits(int m) {
        if (others(m)) {
            return -1;
        }
        int bits = 0;
        for (int o = 0; o < n(); o++) {
            bits |= o != m && ways(m, o) > 0 ? 1 << o : 0;
        }
        return bits;
    }

    int causes(int m) {
        if (others(m)) {
            return -1;
        }
        int bits = 0;
        for (int o = 0; o < n(); o++) {
            bits |= o != m && ways(o, m) > 0 ? 1 << o : 0;
        }
        return bits;
    }

    int story() {
        int longest = 0;
        for (int m = 0; m < n(); m++) {
            for (List<Integer> s : storiesFrom(m)) {
                longest = Math.max(longest, s.size());
            }
        }
        return longest;
    }

    int roots() {
        int bits = 0;
        for (int m = 0; m < n(); m++) {
            bits |= causes(m) == 0 ? 1 << m : 0;
        }
        return bits;
    }

    int elders(int m) {
        if (others(m)) {
            return -1;
        }
        int bits = 0;
        for (int o = 0; o < n(); o++) {
            bits |= told.matters.get(o).year < told.matters.get(m).year ? 1 << o : 0;
        }
        return bits;
    }

    int redeems() {
        int best = -1;
        int most = 0;
        for (int m = 0; m < n(); m++) {
            if (now.sour.get(m) > 0) {
                Set<Integer> were = meantIn(now);
                were.add(m);
                int more = Integer.bitCount(bits(rightBy(were)) & ~right() & ~(1 << m));
                if (more > most) {
                    most = more;
                    best = m;
                }
            }
        }
        return best;
    }

    int gap() {
        int[] years = told.matters.stream().mapToInt(Matter::year).sorted().toArray();
        int widest = 0;
        for (int i = 1; i < years.length; i++) {
            widest = Math.max(widest, years[i] - years[i - 1]);
        }
        return widest;
    }

    int bare() {
        int bits = 0;
        for (int m = 0; m < n(); m++) {
            bits |= is(m, "winter") && now.sour.get(m) > 0 ? 1 << m : 0;
        }
        return bits;
    }

    int sourest() {
        int most = now.sour.stream().mapToInt(x -> x).max().orElse(0);
        return most == 0 ? -1 : now.sour.indexOf(most);
    }

    int lost() {
        int bits = 0;
        for (int m = 0; m < n(); m++) {
            bits |= cheap(m, 0) == -2 ? 1 << m : 0;
        }
        return bits;
    }

    // ---- which it was

    private int sourWith(int m, int coats) {
        Now s = now;
        for (int i = 0; i < coats; i++) {
            s = coat(s, m);
        }
        return s.sour.get(m);
    }

    boolean see(int coats, int sour, boolean less) {
        if (coats < 0 || coats > 9 || sour < 0 || sour > 40 || seen.size() == 8) {
            return false;
        }
        seen.add(new Sight(coats, sour, less));
        return true;
    }

    int who() {
        int bits = 0;
        for (int m = 0; m < n(); m++) {
            boolean fits = true;
            for (Sight s : seen) {
                fits &= sourWith(m, s.coats) <= s.sour == s.less;
            }
            bits |= fits ? 1 << m : 0;
        }
        return bits;
    }

    int taste() {
        Set<Integer> who = setOf(who());
        List<int[]> tries = new ArrayList<>();
        for (int coats = 0; coats <= 9; coats++) {
            int[] sours = new int[7];
            for (int m : who) {
                sours[m] = sourWith(m, coats);
            }
            for (int sour = 0; sour <= 40; sour++) {
                int bound = sour;
                int no = (int) who.stream().filter(m -> sours[m] <= bound).count();
                tries.add(new int[] {Math.max(no, who.size() - no), coats, sour});
            }
        }
        int[] best = tries.stream().min(Comparator.<int[]>comparingInt(t -> t[0])
                .thenComparingInt(t -> t[1]).thenComparingInt(t -> t[2])).get();
        return best[0] < who.size() ? 100 * best[1] + best[2] : -1;
    }

    // ---- chance, dinner, draws, marks

    int chance(int m, int years, int odds) {
        if (others(m) || years < 1 || years > 6 || odds < 0 || odds > 10) {
            return -1;
        }
        BigInteger sum = BigInteger.ZERO;
        for (int falls = 0; falls < 1 << years; falls++) {
            Now s = now;
            BigInteger weight = BigInteger.ONE;
            for (int y = 0; y < years; y++) {
                boolean falling = (falls >> y & 1) == 1;
                weight = weight.multiply(BigInteger.valueOf(falling ? odds : 10 - odds));
                Now then = falling ? spread(s, m) : s;
                s = year(then == null ? s : then);
            }
            sum = sum.add(s.sour.get(m) == 0 ? weight : BigInteger.ZERO);
        }
        return sum.multiply(BigInteger.valueOf(1000000)).divide(BigInteger.TEN.pow(years)).intValueExact();
    }

    int rests(int both, int loses, int gets, int what) {
        if (Math.min(both, Math.min(loses, gets)) < 0 || Math.max(both, Math.max(loses, gets)) > 9) {
            throw new NoSuchElementException();
        }
        int[] first = {0, gets, -loses, both};
        int[] second = {0, -loses, gets, both};
        List<Integer> rests = new ArrayList<>();
        for (int c = 0; c < 4; c++) {
            if (first[c ^ 2] <= first[c] && second[c ^ 1] <= second[c]) {
                rests.add(c);
            }
        }
        if (what == -1) {
            return rests.size();
        }
        if (what < 0 || what >= rests.size()) {
            throw new NoSuchElementException();
        }
        return rests.get(what);
    }

    int years(int seed, int years, int what) {
        if (seed < 0 || seed > 9999 || years < 1 || years > 99 || what < 0 || what > 2) {
            return -1;
        }
        BigInteger g = BigInteger.valueOf(seed);
        Now s = now;
        int spreads = 0;
        for (int y = 0; y < years; y++) {
            if (n() > 0) {
                int[] drawn = new int[2];
                for (int i = 0; i < 2; i++) {
                    g = g.multiply(BigInteger.valueOf(1103515245)).add(BigInteger.valueOf(12345)).mod(BigInteger.ONE.shiftLeft(31));
                    drawn[i] = g.shiftRight(16).mod(BigInteger.valueOf(i == 0 ? n() : 4)).intValue();
                }
                Now then = drawn[1] == 0 ? eat(s, drawn[0]) : drawn[1] == 3 ? null : spread(s, drawn[0]);
                if (then != null) {
                    s = then;
                    spreads += drawn[1] == 0 ? 0 : 1;
                }
            }
            s = year(s);
        }
        return new int[] {spreads, bits(meantIn(s)), s.pot}[what];
    }

    boolean mark(int mark, boolean back) {
        if (mark < 0 || mark > 3) {
            return false;
        }
        if (!back) {
            marks.put(mark, new Kept(now, round, List.copyOf(seen)));
            return true;
        }
        Kept kept = marks.get(mark);
        if (kept == null) {
            return false;
        }
        now = kept.now;
        round = kept.round;
        seen = new ArrayList<>(kept.seen);
        before.clear();
        return true;
    }

    int count(int what) {
        if (what < 0 || what > 10) {
            return -1;
        }
        return new int[] {n(), told.knife(), told.adds(), now.year, now.pot, now.sour.stream().mapToInt(x -> x).sum(),
            now.coats.stream().mapToInt(x -> x).sum(), round.size(), seen.size(), before.size(), tape.length()}[what];
    }

    @Override
    public String toString() {
        return told.matters + " " + told.led + " " + told.numbers + " " + now + " " + round + " " + seen;
    }
}
