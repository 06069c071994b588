import java.util.ArrayList;
import java.util.Arrays;
import java.util.HashMap;
import java.util.List;
import java.util.Map;
import java.util.NoSuchElementException;
import java.util.TreeMap;
import java.util.TreeSet;

/**
 * The document told a second time, as plainly and dearly as it can be: everything is tried, nothing is kept.
 * It shares no way of working with VillageShow: trees instead of steps, all ways instead of searches.
 */
final class Oracle {
    static final int NONE = -1;
    /** Answered where trying everything would take too long; such an answer is not compared. */
    static final int TOO_DEAR = Integer.MIN_VALUE + 77;

    interface E {
        int of(Map<String, Integer> facts);
    }

    static final class Fault extends RuntimeException {
        final int number;

        Fault(int kind, int place) {
            number = kind + 16 * place;
        }
    }

    record Exhibitor(int house, int age, boolean won) { }

    record Piece(int exhibitor, int kind, int size, int grade) { }

    record Bar(int word, E when) { }

    static final class Text {
        int want;
        int kind = 10;
        final List<Bar> bars = new ArrayList<>();
        final Map<String, E> lines = new HashMap<>();
    }

    static final class Entry {
        final int kind;
        final int by;
        final List<Integer> pieces;
        final int jars;
        int lost;
        boolean stands = true;

        Entry(int kind, int by, List<Integer> pieces, int jars) {
            this.kind = kind;
            this.by = by;
            this.pieces = pieces;
            this.jars = jars;
        }

        Entry copy() {
            Entry copy = new Entry(kind, by, pieces, jars);
            copy.lost = lost;
            copy.stands = stands;
            return copy;
        }
    }

    record Mark(int number, List<Entry> entries, Map<Integer, Integer> judged) { }

    final Map<Integer, Exhibitor> exhibitors = new TreeMap<>();
    final Map<Integer, Piece> pieces = new TreeMap<>();
    final Map<Integer, Text> classes = new TreeMap<>();
    Text book = new Text();
    Text plan = new Text();
    String tape = "";
    List<Entry> entries = new ArrayList<>();
    final Map<Integer, Integer> judges = new TreeMap<>();
    final int[][] leans = new int[4][6];
    Map<Integer, Integer> judged = new TreeMap<>();
    final int[] feet = new int[3];
    final int[] lies = new int[10];
    final int[] foot = {1, 1, 1, 1, 1, 1, 1, 1, 1, 1};
    int cap = 4;
    final int[] points = {0, 3, 2, 1};
    final int[] prizes = new int[4];
    int fee;
    int jar;
    final List<Map<Integer, Integer>> years = new ArrayList<>();
    final List<Mark> marks = new ArrayList<>();

    Oracle() {
        for (int i = 0; i < 10; i++) {
            years.add(new TreeMap<>());
        }
    }

    private static boolean in(int n, int least, int most) {
        return least <= n && n <= most;
    }

    boolean exhibitor(int exhibitor, int house, int age, boolean won) {
        if (!in(exhibitor, 0, 9) || !in(house, 0, 5) || !in(age, 1, 99)) {
            return false;
        }
        exhibitors.put(exhibitor, new Exhibitor(house, age, won));
        return true;
    }

    private boolean busy(int piece) {
        return entries.stream().anyMatch(e -> e.stands && e.pieces.contains(piece));
    }

    boolean piece(int piece, int exhibitor, int kind, int size, int grade) {
        if (!in(piece, 0, 39) || !exhibitors.containsKey(exhibitor) || !in(kind, 0, 9) || !in(size, 1, 99)
            || !in(grade, 0, 9) || busy(piece)) {
            return false;
        }
        pieces.put(piece, new Piece(exhibitor, kind, size, grade));
        return true;
    }

    int feed(long a, long b, long c) {
        for (long signs : new long[] {a, b, c}) {
            for (int i = 7; i >= 0; i--) {
                int sign = (int) (signs >> 8 * i) & 0xff;
                if ((sign == 10 || in(sign, 32, 126)) && tape.length() < 1000) {
                    tape += (char) sign;
                }
            }
        }
        return tape.length();
    }

    // ---- reading

    record Token(String text, int place) { }

    private static List<Token> tokens(String tape) {
        List<Token> found = new ArrayList<>();
        int i = 0;
        while (i < tape.length()) {
            String rest = tape.substring(i);
            String token = rest.replaceAll("(?s)^([a-z]+|[0-9]+|.).*", "$1");
            if (!token.isBlank()) {
                found.add(new Token(token, i));
            }
            i += token.length();
        }
        found.add(new Token("", tape.length()));
        return found;
    }

    private final class Parser {
        final List<Token> tokens;
        final List<String> facts;
        final String lines;
        int i;
        final Text text = new Text();

        Parser(String tape, String lines, String facts) {
            tokens = tokens(tape);
            this.lines = lines;
            this.facts = List.of(facts.split(" "));
        }

        String now() {
            return tokens.get(i).text;
        }

        Fault fault(int kind) {
            return new Fault(kind, tokens.get(i).place);
        }

        void take(String token) {
            if (!now().equals(token)) {
                throw fault(1);
            }
            i++;
        }

        int number(int least, int most) {
            if (!now().matches("[0-9]{1,4}")) {
                throw fault(1);
            }
            int n = Integer.parseInt(now());
            if (!in(n, least, most)) {
                throw fault(4);
            }
            i++;
            return n;
        }

        Text all() {
            while (!now().isEmpty()) {
                String word = now();
                if (!List.of(lines.split(" ")).contains(word)) {
                    throw fault(1);
                }
                if (word.equals("want") && text.want > 0 || text.lines.containsKey(word)) {
                    throw fault(3);
                }
                if (word.equals("bar") && text.bars.size() == 6) {
                    throw fault(5);
                }
                i++;
                if (word.equals("want")) {
                    text.want = number(1, 8);
                    take("kind");
                    text.kind = number(0, 9);
                } else if (word.equals("bar")) {
                    int n = number(0, 99);
                    take("when");
                    text.bars.add(new Bar(n, e(List.of())));
                } else {
                    if (!word.equals("marks") && !word.equals("tie")) {
                        take("when");
                    }
                    text.lines.put(word, e(List.of()));
                }
                take(";");
            }
            return text;
        }

        E e(List<String> around) {
            E left = test(around);
            while (now().equals("and") || now().equals("or")) {
                boolean and = now().equals("and");
                i++;
                E a = left;
                E b = test(around);
                left = f -> {
                    boolean x = a.of(f) != 0;
                    boolean y = b.of(f) != 0;
                    return (and ? x & y : x | y) ? 1 : 0;
                };
            }
            return left;
        }

        E test(List<String> around) {
            E a = sum(around);
            if (now().equals("<")) {
                i++;
                E b = sum(around);
                return f -> a.of(f) < b.of(f) ? 1 : 0;
            }
            if (now().equals("=")) {
                i++;
                E b = sum(around);
                return f -> a.of(f) == b.of(f) ? 1 : 0;
            }
            return a;
        }

        E sum(List<String> around) {
            E left = product(around);
            while (now().equals("+") || now().equals("-")) {
                int by = now().equals("+") ? 1 : -1;
                i++;
                E a = left;
                E b = product(around);
                left = f -> a.of(f) + by * b.of(f);
            }
            return left;
        }

        E product(List<String> around) {
            E left = part(around);
            while (now().equals("*")) {
                i++;
                E a = left;
                E b = part(around);
                left = f -> a.of(f) * b.of(f);
            }
            return left;
        }

        E part(List<String> around) {
            String word = now();
            boolean number = word.matches("[0-9]{1,4}");
            if (!number && !facts.contains(word) && !word.equals("not") && !word.equals("(")) {
                throw fault(1);
            }
            if (around.size() == 5) {
                throw fault(5);
            }
            i++;
            if (number) {
                int n = Integer.parseInt(word);
                return f -> n;
            }
            if (facts.contains(word)) {
                return f -> f.get(word);
            }
            List<String> within = new ArrayList<>(around);
            within.add(word);
            if (word.equals("not")) {
                E a = part(within);
                return f -> a.of(f) == 0 ? 1 : 0;
            }
            E a = e(within);
            take(")");
            return a;
        }
    }

    private static final String ENTRY_FACTS = "pieces kinds odd size spread grade worst age house won entries";
    private static final String PLAN_FACTS = "now last most least mean years kind wanted";

    private Parser parser(String lines, String facts) {
        Parser parser = new Parser(tape, lines, facts);
        tape = "";
        return parser;
    }

    int schedule(int kind) {
        Parser parser = parser("want bar marks tie", ENTRY_FACTS);
        if (!in(kind, 0, 9)) {
            return -1;
        }
        try {
            classes.put(kind, parser.all());
            return 0;
        } catch (Fault fault) {
            return fault.number;
        }
    }

    int book() {
        try {
            book = parser("bar", ENTRY_FACTS).all();
            return 0;
        } catch (Fault fault) {
            return fault.number;
        }
    }

    int plan() {
        try {
            plan = parser("drop split join", PLAN_FACTS).all();
            return 0;
        } catch (Fault fault) {
            return fault.number;
        }
    }

    // ---- entries

    private static List<Integer> list(long bits) {
        List<Integer> list = new ArrayList<>();
        for (int i = 0; i < 64; i++) {
            if ((bits >>> i & 1) == 1) {
                list.add(i);
            }
        }
        return list;
    }

    int entry(int kind, int exhibitor, long bits, int jars) {
        List<Integer> list = list(bits);
        if (!classes.containsKey(kind) || !exhibitors.containsKey(exhibitor) || !in(list.size(), 1, 8)
            || !in(jars, 0, 9) || entries.size() == 40) {
            return NONE;
        }
        for (int piece : list) {
            if (!pieces.containsKey(piece) || pieces.get(piece).exhibitor != exhibitor || busy(piece)) {
                return NONE;
            }
        }
        entries.add(new Entry(kind, exhibitor, list, jars));
        return entries.size() - 1;
    }

    private int standing(int by, int kind) {
        return (int) entries.stream().filter(e -> e.stands && e.by == by && e.kind == kind).count();
    }

    private Map<String, Integer> facts(int kind, int by, List<Integer> list, int entriesThere) {
        Map<String, Integer> facts = new HashMap<>();
        List<Piece> its = list.stream().map(pieces::get).toList();
        Text text = classes.get(kind);
        TreeSet<Integer> kinds = new TreeSet<>();
        TreeSet<Integer> sizes = new TreeSet<>();
        TreeSet<Integer> grades = new TreeSet<>();
        for (Piece p : its) {
            kinds.add(p.kind);
            sizes.add(p.size);
            grades.add(p.grade);
        }
        facts.put("pieces", its.size());
        facts.put("kinds", kinds.size());
        facts.put("odd", text.want == 0 ? 0 : (int) its.stream().filter(p -> p.kind != text.kind).count());
        facts.put("size", its.stream().mapToInt(Piece::size).sum());
        facts.put("spread", sizes.last() - sizes.first());
        facts.put("grade", its.stream().mapToInt(Piece::grade).sum());
        facts.put("worst", grades.first());
        Exhibitor who = exhibitors.get(by);
        facts.put("age", who.age);
        facts.put("house", who.house);
        facts.put("won", who.won ? 1 : 0);
        facts.put("entries", entriesThere);
        return facts;
    }

    private Map<String, Integer> facts(Entry e) {
        return facts(e.kind, e.by, e.pieces, standing(e.by, e.kind));
    }

    private int out(Text text, Map<String, Integer> facts) {
        if (text.want > 0 && (facts.get("pieces") != text.want || facts.get("odd") > 0)) {
            return 100;
        }
        List<Bar> bars = new ArrayList<>(text.bars);
        bars.addAll(book.bars);
        for (Bar bar : bars) {
            if (bar.when.of(facts) != 0) {
                return bar.word;
            }
        }
        return NONE;
    }

    private int out(Entry e) {
        return out(classes.get(e.kind), facts(e));
    }

    private boolean has(int entry) {
        return in(entry, 0, entries.size() - 1);
    }

    private boolean stands(int entry) {
        return has(entry) && entries.get(entry).stands;
    }

    int verdict(int entry) {
        if (!has(entry)) {
            throw new NoSuchElementException();
        }
        return out(entries.get(entry));
    }

    int fact(int entry, int what) {
        if (!has(entry) || !in(what, 0, 13)) {
            throw new NoSuchElementException();
        }
        Entry e = entries.get(entry);
        return switch (what) {
            case 11 -> e.kind;
            case 12 -> e.by;
            case 13 -> e.stands ? 1 : 0;
            default -> facts(e).get(ENTRY_FACTS.split(" ")[what]);
        };
    }

    int clash(int kind, int what) {
        Text text = classes.get(kind);
        if (text == null || text.want == 0 || !in(what, 0, 1)) {
            return NONE;
        }
        List<Integer> words = new ArrayList<>();
        for (int age = 1; age <= 99; age++) {
            int n = text.want;
            Map<String, Integer> facts = new HashMap<>(Map.of("pieces", n, "kinds", 1, "odd", 0, "size", 50 * n,
                "spread", 0, "grade", 9 * n, "worst", 9, "age", age, "house", 0, "won", 0));
            facts.put("entries", 1);
            if (out(text, facts) != NONE) {
                words.add(out(text, facts));
            }
        }
        return what == 0 ? words.size() : words.isEmpty() ? NONE : words.get(0);
    }

    boolean strike(int entry) {
        if (!stands(entry)) {
            return false;
        }
        entries.get(entry).stands = false;
        return true;
    }

    boolean lost(int entry, int jars) {
        if (!has(entry) || !in(jars, 0, entries.get(entry).jars)) {
            return false;
        }
        entries.get(entry).lost = jars;
        return true;
    }

    // ---- judges

    boolean judge(int judge, int house) {
        if (!in(judge, 0, 3) || !in(house, 0, 5)) {
            return false;
        }
        judges.put(judge, house);
        return true;
    }

    boolean lean(int judge, int house, int n) {
        if (!judges.containsKey(judge) || !in(house, 0, 5) || !in(n, -9, 9)) {
            return false;
        }
        leans[judge][house] = n;
        return true;
    }

    private boolean isKin(int judge, int kind) {
        return entries.stream().anyMatch(
            e -> e.stands && e.kind == kind && exhibitors.get(e.by).house == judges.get(judge));
    }

    int kin(int judge, int kind) {
        if (!judges.containsKey(judge) || !classes.containsKey(kind)) {
            return NONE;
        }
        return isKin(judge, kind) ? 1 : 0;
    }

    private int line(Entry e, String line) {
        E rule = classes.get(e.kind).lines.get(line);
        return rule == null ? 0 : rule.of(facts(e));
    }

    private int marksOf(Entry e, int judge) {
        return line(e, "marks") + leans[judge][exhibitors.get(e.by).house];
    }

    int marks(int entry, int judge) {
        if (!has(entry) || !judges.containsKey(judge)) {
            throw new NoSuchElementException();
        }
        return marksOf(entries.get(entry), judge);
    }

    private int placeOf(Entry e, Integer judge) {
        if (judge == null || !e.stands || out(e) != NONE) {
            return NONE;
        }
        int place = 1;
        for (Entry other : entries) {
            if (other.kind == e.kind && other.stands && out(other) == NONE) {
                int a = marksOf(other, judge);
                int b = marksOf(e, judge);
                if (a > b || a == b && line(other, "tie") > line(e, "tie")) {
                    place++;
                }
            }
        }
        return place;
    }

    int place(int entry, int judge) {
        if (!has(entry) || judge != NONE && !judges.containsKey(judge)) {
            return NONE;
        }
        Entry e = entries.get(entry);
        return placeOf(e, judge == NONE ? judged.get(e.kind) : Integer.valueOf(judge));
    }

    boolean judged(int kind, int judge) {
        if (!classes.containsKey(kind)) {
            return false;
        }
        if (judge == NONE) {
            judged.remove(kind);
            return true;
        }
        if (!judges.containsKey(judge) || isKin(judge, kind)) {
            return false;
        }
        judged.put(kind, judge);
        return true;
    }

    int span(int entry, int what) {
        if (!has(entry) || !in(what, 0, 1)) {
            return NONE;
        }
        Entry e = entries.get(entry);
        TreeSet<Integer> places = new TreeSet<>();
        for (int judge : judges.keySet()) {
            if (!isKin(judge, e.kind)) {
                places.add(placeOf(e, judge));
            }
        }
        return places.isEmpty() ? NONE : what == 0 ? places.first() : places.last();
    }

    // ---- tables

    boolean table(int table, int n) {
        if (!in(table, 0, 2) || !in(n, 0, 99)) {
            return false;
        }
        feet[table] = n;
        return true;
    }

    boolean lay(int kind, int table, int n) {
        if (!classes.containsKey(kind) || !in(table, 0, 2) || !in(n, 0, 9)) {
            return false;
        }
        lies[kind] = table;
        foot[kind] = n;
        return true;
    }

    private int standingIn(int kind) {
        return (int) entries.stream().filter(e -> e.stands && e.kind == kind).count();
    }

    private int take(int kind, boolean guessed) {
        int many = guessed ? years.get(kind).values().stream().mapToInt(n -> n).max().orElse(0) : standingIn(kind);
        return foot[kind] * many;
    }

    int taken(int table, boolean guessed) {
        if (!in(table, 0, 2)) {
            return NONE;
        }
        return classes.keySet().stream().filter(k -> lies[k] == table).mapToInt(k -> take(k, guessed)).sum();
    }

    int moves(boolean guessed, int what) {
        if (!in(what, 0, 10) || what > 0 && !classes.containsKey(what - 1)) {
            return NONE;
        }
        List<Integer> kinds = new ArrayList<>(classes.keySet());
        int ways = (int) Math.pow(3, kinds.size());
        int best = Integer.MAX_VALUE;
        int[] bestWay = null;
        int[] takes = kinds.stream().mapToInt(k -> take(k, guessed)).toArray();
        for (int way = 0; way < ways; way++) {
            int[] at = new int[kinds.size()];
            int rest = way;
            for (int i = kinds.size() - 1; i >= 0; i--) {
                at[i] = rest % 3;
                rest /= 3;
            }
            int[] sums = new int[3];
            int moved = 0;
            for (int i = 0; i < at.length; i++) {
                sums[at[i]] += takes[i];
                moved += at[i] != lies[kinds.get(i)] ? 1 : 0;
            }
            if (sums[0] <= feet[0] && sums[1] <= feet[1] && sums[2] <= feet[2] && moved < best) {
                best = moved;
                bestWay = at;
            }
        }
        if (bestWay == null) {
            return NONE;
        }
        return what == 0 ? best : bestWay[kinds.indexOf(what - 1)];
    }

    boolean cap(int n) {
        if (!in(n, 1, 10)) {
            return false;
        }
        cap = n;
        return true;
    }

    int round(int what) {
        if (!in(what, 0, 10)) {
            return NONE;
        }
        List<Integer> kinds = classes.keySet().stream().filter(k -> standingIn(k) > 0).toList();
        if (what > 0 && !kinds.contains(what - 1)) {
            return NONE;
        }
        if (kinds.size() > 8) {
            return TOO_DEAR;
        }
        boolean[][] kin = new boolean[4][kinds.size()];
        for (int judge : judges.keySet()) {
            for (int i = 0; i < kinds.size(); i++) {
                kin[judge][i] = isKin(judge, kinds.get(i));
            }
        }
        int ways = 1 << 2 * kinds.size();
        int best = Integer.MAX_VALUE;
        int bestWay = -1;
        for (int way = 0; way < ways; way++) {
            int walks = walks(way, kinds, kin);
            if (walks < best) {
                best = walks;
                bestWay = way;
            }
        }
        if (bestWay < 0) {
            return NONE;
        }
        return what == 0 ? best : bestWay >> 2 * (kinds.size() - 1 - kinds.indexOf(what - 1)) & 3;
    }

    private int walks(int way, List<Integer> kinds, boolean[][] kin) {
        int walks = 0;
        for (int judge = 0; judge < 4; judge++) {
            int load = 0;
            int low = 9;
            int high = -9;
            for (int i = 0; i < kinds.size(); i++) {
                if ((way >> 2 * (kinds.size() - 1 - i) & 3) != judge) {
                    continue;
                }
                if (!judges.containsKey(judge) || kin[judge][i] || ++load > cap) {
                    return Integer.MAX_VALUE;
                }
                low = Math.min(low, lies[kinds.get(i)]);
                high = Math.max(high, lies[kinds.get(i)]);
            }
            walks += load > 0 ? high - low : 0;
        }
        return walks;
    }

    // ---- prizes

    boolean prize(int place, int its, int money) {
        if (!in(place, 1, 3) || !in(its, 0, 99) || !in(money, 0, 999)) {
            return false;
        }
        points[place] = its;
        prizes[place] = money;
        return true;
    }

    boolean fees(int itsFee, int itsJar) {
        if (!in(itsFee, 0, 99) || !in(itsJar, 0, 99)) {
            return false;
        }
        fee = itsFee;
        jar = itsJar;
        return true;
    }

    private int[] pointsNow() {
        int[] sums = new int[10];
        for (Entry e : entries) {
            int place = placeOf(e, judged.get(e.kind));
            sums[e.by] += in(place, 1, 3) ? points[place] : 0;
        }
        return sums;
    }

    private int[] firstsNow() {
        int[] sums = new int[10];
        for (Entry e : entries) {
            sums[e.by] += placeOf(e, judged.get(e.kind)) == 1 ? 1 : 0;
        }
        return sums;
    }

    int points(boolean house, int which) {
        int[] now = pointsNow();
        if (!house) {
            return exhibitors.containsKey(which) ? now[which] : NONE;
        }
        if (!in(which, 0, 5)) {
            return NONE;
        }
        return exhibitors.keySet().stream().filter(w -> exhibitors.get(w).house == which).mapToInt(w -> now[w]).sum();
    }

    private int cupOf(int[] sums, int[] firsts) {
        List<Integer> in = exhibitors.keySet().stream().filter(w -> !exhibitors.get(w).won && sums[w] > 0).toList();
        int most = in.stream().mapToInt(w -> sums[w]).max().orElse(0);
        in = in.stream().filter(w -> sums[w] == most).toList();
        int mostFirsts = in.stream().mapToInt(w -> firsts[w]).max().orElse(0);
        return in.stream().filter(w -> firsts[w] == mostFirsts).mapToInt(w -> 1 << w).sum();
    }

    int cup() {
        return cupOf(pointsNow(), firstsNow());
    }

    int can(int exhibitor) {
        if (!exhibitors.containsKey(exhibitor)) {
            return NONE;
        }
        List<List<Integer>> open = new ArrayList<>();
        long ways = 1;
        for (int kind : classes.keySet()) {
            List<Integer> its = entries.stream().filter(e -> e.kind == kind && e.stands && out(e) == NONE)
                .map(e -> e.by).toList();
            if (judged.containsKey(kind) || its.isEmpty()) {
                continue;
            }
            if (its.size() > 5) {
                return NONE;
            }
            open.add(its);
            ways *= new int[] {1, 1, 2, 6, 24, 120}[its.size()];
        }
        if (open.size() > 3) {
            return NONE;
        }
        if (ways > 20000) {
            return TOO_DEAR;
        }
        return anyWay(exhibitor, open, 0, pointsNow(), firstsNow()) ? 1 : 0;
    }

    private boolean anyWay(int who, List<List<Integer>> open, int at, int[] sums, int[] firsts) {
        if (at == open.size()) {
            return (cupOf(sums, firsts) >> who & 1) == 1;
        }
        for (List<Integer> order : orders(open.get(at))) {
            int[] s = sums.clone();
            int[] f = firsts.clone();
            for (int i = 0; i < order.size(); i++) {
                s[order.get(i)] += i < 3 ? points[i + 1] : 0;
                f[order.get(i)] += i == 0 ? 1 : 0;
            }
            if (anyWay(who, open, at + 1, s, f)) {
                return true;
            }
        }
        return false;
    }

    private static List<List<Integer>> orders(List<Integer> of) {
        if (of.isEmpty()) {
            return List.of(List.of());
        }
        List<List<Integer>> all = new ArrayList<>();
        for (int i = 0; i < of.size(); i++) {
            List<Integer> rest = new ArrayList<>(of);
            Integer first = rest.remove(i);
            for (List<Integer> order : orders(rest)) {
                List<Integer> one = new ArrayList<>(List.of(first));
                one.addAll(order);
                all.add(one);
            }
        }
        return all;
    }

    int protest(int entry, int what) {
        if (!stands(entry) || !in(what, 0, 1)) {
            return NONE;
        }
        int[] before = entries.stream().mapToInt(e -> placeOf(e, judged.get(e.kind))).toArray();
        entries.get(entry).stands = false;
        int[] after = entries.stream().mapToInt(e -> placeOf(e, judged.get(e.kind))).toArray();
        int cup = cup();
        entries.get(entry).stands = true;
        int changed = 0;
        for (int i = 0; i < before.length; i++) {
            changed += i != entry && before[i] != after[i] ? 1 : 0;
        }
        return what == 0 ? changed : cup;
    }

    int money(int exhibitor) {
        if (!exhibitors.containsKey(exhibitor)) {
            throw new NoSuchElementException();
        }
        int sum = 0;
        for (Entry e : entries) {
            if (e.by == exhibitor) {
                int place = placeOf(e, judged.get(e.kind));
                sum += (in(place, 1, 3) ? prizes[place] : 0) - fee - jar * e.lost;
            }
        }
        return sum;
    }

    // ---- sets

    long sets(int exhibitor, int a, int b, int what) {
        if (!exhibitors.containsKey(exhibitor) || !classes.containsKey(a) || !classes.containsKey(b) || a == b
            || !in(what, 0, 2)) {
            throw new NoSuchElementException();
        }
        List<Integer> free = pieces.keySet().stream()
            .filter(p -> pieces.get(p).exhibitor == exhibitor && !busy(p)).toList();
        if (free.size() > 10) {
            throw new NoSuchElementException();
        }
        long best = Long.MIN_VALUE;
        long bestA = 0;
        long bestB = 0;
        Map<Long, Long> worthA = worths(exhibitor, a, free);
        Map<Long, Long> worthB = worths(exhibitor, b, free);
        for (long setA : worthA.keySet()) {
            for (long setB : worthB.keySet()) {
                if ((setA & setB) != 0) {
                    continue;
                }
                long sum = worthA.get(setA) + worthB.get(setB);
                if (sum > best || sum == best && (setA < bestA || setA == bestA && setB < bestB)) {
                    best = sum;
                    bestA = setA;
                    bestB = setB;
                }
            }
        }
        return what == 0 ? best : what == 1 ? bestA : bestB;
    }

    private Map<Long, Long> worths(int exhibitor, int kind, List<Integer> free) {
        Map<Long, Long> worths = new HashMap<>();
        for (int set = 0; set < 1 << free.size(); set++) {
            List<Integer> list = new ArrayList<>();
            long bits = 0;
            for (int i = 0; i < free.size(); i++) {
                if ((set >> i & 1) == 1) {
                    list.add(free.get(i));
                    bits += 1L << free.get(i);
                }
            }
            if (list.isEmpty()) {
                worths.put(0L, 0L);
            } else if (list.size() <= 8) {
                Map<String, Integer> facts = facts(kind, exhibitor, list, standing(exhibitor, kind) + 1);
                Text text = classes.get(kind);
                if (out(text, facts) == NONE) {
                    E rule = text.lines.get("marks");
                    worths.put(bits, rule == null ? 0L : rule.of(facts));
                }
            }
        }
        return worths;
    }

    // ---- years and the plan

    boolean year(int kind, int year, int n) {
        if (!in(kind, 0, 9) || !in(year, 0, 4) || !in(n, -1, 99)) {
            return false;
        }
        if (n == NONE) {
            years.get(kind).remove(year);
        } else {
            years.get(kind).put(year, n);
        }
        return true;
    }

    private int fate(int kind) {
        Map<Integer, Integer> its = years.get(kind);
        Map<String, Integer> facts = new HashMap<>();
        facts.put("now", standingIn(kind));
        facts.put("last", its.getOrDefault(0, 0));
        facts.put("most", its.values().stream().mapToInt(n -> n).max().orElse(0));
        facts.put("least", its.values().stream().mapToInt(n -> n).min().orElse(0));
        facts.put("mean", (int) its.values().stream().mapToInt(n -> n).average().orElse(0));
        facts.put("years", its.size());
        facts.put("kind", classes.get(kind).kind);
        facts.put("wanted", classes.get(kind).want);
        String[] lines = {"drop", "split", "join"};
        for (int i = 0; i < 3; i++) {
            if (plan.lines.containsKey(lines[i]) && plan.lines.get(lines[i]).of(facts) != 0) {
                return i + 1;
            }
        }
        return 0;
    }

    int planned(int kind, int what) {
        if (!classes.containsKey(kind) || !in(what, 0, 1)) {
            return NONE;
        }
        if (what == 0) {
            return fate(kind);
        }
        List<Integer> joined = classes.keySet().stream()
            .filter(k -> fate(k) == 3 && classes.get(k).kind == classes.get(kind).kind).toList();
        int i = joined.indexOf(kind);
        int with = i < 0 ? -1 : i % 2 == 0 ? i + 1 : i - 1;
        return with < 0 || with >= joined.size() ? NONE : joined.get(with);
    }

    // ---- marks and counts

    boolean mark(int mark, boolean back) {
        if (!in(mark, 0, 3)) {
            return false;
        }
        if (!back) {
            marks.removeIf(m -> m.number == mark);
            marks.add(new Mark(mark, copy(entries), new TreeMap<>(judged)));
            return true;
        }
        for (int i = 0; i < marks.size(); i++) {
            if (marks.get(i).number == mark) {
                entries = copy(marks.get(i).entries);
                judged = new TreeMap<>(marks.get(i).judged);
                marks.subList(i + 1, marks.size()).clear();
                return true;
            }
        }
        return false;
    }

    private static List<Entry> copy(List<Entry> entries) {
        List<Entry> copies = new ArrayList<>();
        entries.forEach(e -> copies.add(e.copy()));
        return copies;
    }

    int count(int what) {
        return switch (what) {
            case 0 -> exhibitors.size();
            case 1 -> pieces.size();
            case 2 -> classes.size();
            case 3 -> entries.size();
            case 4 -> (int) entries.stream().filter(e -> e.stands).count();
            case 5 -> (int) entries.stream().filter(e -> e.stands && out(e) != NONE).count();
            case 6 -> judged.size();
            case 7 -> judges.size();
            case 8 -> book.bars.size();
            case 9 -> tape.length();
            case 10 -> entries.stream().mapToInt(e -> e.lost).sum();
            default -> NONE;
        };
    }

    @Override
    public String toString() {
        return "tape " + tape + " feet " + Arrays.toString(feet);
    }
}
