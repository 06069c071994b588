import java.util.Arrays;
import java.util.NoSuchElementException;
import java.util.Random;

/** Random runs of 512 calls on VillageShow and on the Oracle: every answer must be the same. */
public final class OracleTest {
    private static final int RUNS = 1500;

    private final Random random;
    private final VillageShow show = new VillageShow();
    private final Oracle oracle = new Oracle();
    private final StringBuilder told = new StringBuilder();
    private final int[] asked;
    private final int[] spoken;
    private int calls;
    private int wrong;
    /** In a calm run little is told anew and little is barred: places, the cup and rounds have something to show. */
    private boolean calm;
    private int classesUsed;
    /** In a wild run numbers are often out of bounds and lines too many. */
    private boolean wild;

    private OracleTest(long seed, int[] asked, int[] spoken) {
        random = new Random(seed);
        this.asked = asked;
        this.spoken = spoken;
    }

    public static void main(String[] args) {
        int wrong = 0;
        int[] asked = new int[NAMES.length];
        int[] spoken = new int[NAMES.length];
        for (int seed = 1; seed <= RUNS; seed++) {
            OracleTest run = new OracleTest(seed, asked, spoken);
            if (seed % 6 == 4) {
                run.readMuch();
            } else {
                run.go(seed % 6);
            }
            if (run.wrong > 0) {
                wrong++;
                System.out.println("run " + seed + ":\n" + run.told);
                if (wrong >= 3) {
                    break;
                }
            }
        }
        for (int i = 0; i < NAMES.length; i++) {
            System.out.println(NAMES[i] + ": " + asked[i] + " calls, " + spoken[i] + " with more to say than a refusal");
            if (spoken[i] < RUNS / 10) {
                wrong++;
                System.out.println("too few to be worth anything");
            }
        }
        System.out.println("OracleTest: " + RUNS + " runs, " + wrong + " wrong");
        if (wrong > 0) {
            System.exit(1);
        }
    }

    private static final String[] NAMES = {"exhibitor", "piece", "schedule", "book", "plan", "entry", "verdict", "fact",
        "clash", "strike", "lost", "judge", "lean", "kin", "marks", "place", "judged", "span", "table", "lay", "taken",
        "moves", "cap", "round", "prize", "fees", "points", "cup", "can", "protest", "money", "sets", "year", "planned",
        "mark", "count", "feed"};

    private int some(int least, int most) {
        if (random.nextInt(40) == 0) {
            int[] odd = {least - 1, most + 1, -1, 100, Integer.MIN_VALUE, Integer.MAX_VALUE};
            return odd[random.nextInt(odd.length)];
        }
        return least + random.nextInt(most - least + 1);
    }

    private boolean coin() {
        return random.nextBoolean();
    }

    /** In manner 5 the show is full: ten exhibitors, all pieces, and as many entries as come to stand. */
    private void go(int manner) {
        calm = manner >= 1;
        boolean full = manner == 5;
        int people = full ? 10 : 3 + random.nextInt(8);
        for (int i = 0; i < people; i++) {
            call("exhibitor", i, random.nextInt(calm ? 4 : 6), 1 + random.nextInt(99), random.nextInt(5) == 0 ? 1 : 0);
        }
        for (int i = 0; i < 40; i++) {
            call("piece", i, random.nextInt(people), random.nextInt(3), 1 + random.nextInt(99), random.nextInt(10));
        }
        int kinds = manner == 0 ? 10 : manner == 1 ? 6 + random.nextInt(3) : 2 + random.nextInt(5);
        classesUsed = kinds;
        for (int i = 0; i < kinds; i++) {
            text(0, false);
            call("schedule", i);
            call("lay", i, random.nextInt(3), random.nextInt(4));
        }
        for (int i = 0; i < 2 + random.nextInt(3); i++) {
            call("judge", i, calm ? 2 + random.nextInt(4) : random.nextInt(6));
        }
        for (int i = 0; i < 3; i++) {
            call("table", i, random.nextInt(25));
        }
        int entries = 4 + random.nextInt(14);
        for (int i = 0; i < entries && !full; i++) {
            enter();
        }
        for (int i = 0; i < 45 && full; i++) {
            int piece = i % 40;
            call("entry", random.nextInt(kinds), oracle.pieces.get(piece).exhibitor(), 1L << piece, random.nextInt(10));
        }
        for (int i = 0; i < kinds; i++) {
            call("judged", i, random.nextInt(4));
        }
        for (int i = 0; calls < 512 && wrong == 0; i++) {
            any();
        }
    }

    /** Texts alone, most of them with something wrong. */
    private void readMuch() {
        wild = true;
        while (calls < 512 && wrong == 0) {
            int kind = random.nextInt(3);
            text(kind, random.nextInt(3) == 0);
            if (kind == 0) {
                call("schedule", some(0, 9));
                call("clash", random.nextInt(10), random.nextInt(2));
            } else if (kind == 1) {
                call("book");
                call("count", 8);
            } else {
                call("plan");
                call("planned", random.nextInt(10), 0);
            }
        }
    }

    private void enter() {
        int by = random.nextInt(10);
        long bits = 0;
        int many = 1 + random.nextInt(3);
        for (int i = 0; i < 40 && many > 0; i++) {
            int piece = random.nextInt(40);
            Oracle.Piece p = oracle.pieces.get(piece);
            if (p != null && p.exhibitor() == by && (bits >> piece & 1) == 0) {
                bits |= 1L << piece;
                many--;
            }
        }
        if (random.nextInt(30) == 0) {
            bits ^= 1L << random.nextInt(64);
        }
        call("entry", calm ? random.nextInt(classesUsed) : some(0, 9), by, bits, some(0, 9));
    }

    private void any() {
        String name = NAMES[random.nextInt(NAMES.length - 1)];
        if (calm && random.nextInt(8) > 0 && " exhibitor schedule book judge strike ".contains(" " + name + " ")) {
            return;
        }
        switch (name) {
            case "exhibitor" -> call(name, some(0, 9), some(0, 5), some(1, 99), coin() ? 1 : 0);
            case "piece" -> call(name, some(0, 39), some(0, 9), some(0, 3), some(1, 99), some(0, 9));
            case "schedule" -> {
                if (random.nextInt(3) == 0) {
                    text(0, random.nextInt(3) == 0);
                    call(name, some(0, 9));
                }
            }
            case "book" -> {
                text(1, random.nextInt(3) == 0);
                call(name);
            }
            case "plan" -> {
                text(2, random.nextInt(3) == 0);
                call(name);
            }
            case "entry" -> enter();
            case "verdict" -> call(name, entry());
            case "fact" -> call(name, entry(), some(0, 13));
            case "clash", "protest", "span", "planned" -> call(name, name.equals("clash") || name.equals("planned")
                ? some(0, 9) : entry(), some(0, 1));
            case "strike" -> {
                if (random.nextInt(3) == 0) {
                    call(name, entry());
                }
            }
            case "lost" -> call(name, entry(), some(0, 9));
            case "judge" -> call(name, some(0, 3), some(0, 5));
            case "lean" -> call(name, some(0, 3), some(0, 5), some(-9, 9));
            case "kin" -> call(name, some(0, 3), some(0, 9));
            case "marks" -> call(name, entry(), some(0, 3));
            case "place" -> call(name, entry(), some(-1, 3));
            case "judged" -> call(name, some(0, 9), some(-1, 3));
            case "table" -> call(name, some(0, 2), coin() ? some(0, 9) : some(0, 99));
            case "lay" -> call(name, some(0, 9), some(0, 2), calm ? some(0, 3) : some(0, 9));
            case "taken" -> call(name, some(0, 2), coin() ? 1 : 0);
            case "moves" -> call(name, coin() ? 1 : 0, some(0, 10));
            case "cap" -> call(name, coin() ? some(1, 3) : some(1, 10));
            case "round" -> call(name, some(0, 10));
            case "prize" -> call(name, some(1, 3), coin() ? some(0, 3) : some(0, 99), some(0, 999));
            case "fees" -> call(name, some(0, 99), some(0, 99));
            case "points" -> call(name, coin() ? 1 : 0, some(0, 9));
            case "cup" -> call(name);
            case "can", "money" -> call(name, some(0, 9));
            case "sets" -> call(name, some(0, 9), some(0, 9), some(0, 9), some(0, 2));
            case "year" -> call(name, some(0, 9), some(0, 4), coin() ? some(-1, 5) : some(-1, 99));
            case "mark" -> call(name, some(0, 3), random.nextInt(calm ? 12 : 3) == 0 ? 1 : 0);
            case "count" -> call(name, some(0, 10));
            default -> throw new IllegalStateException(name);
        }
    }

    private int entry() {
        return some(0, Math.max(0, oracle.entries.size() - 1));
    }

    // ---- texts

    private void text(int kind, boolean broken) {
        StringBuilder text = new StringBuilder();
        String facts = kind == 2 ? "now last most least mean years kind wanted"
            : "pieces kinds odd size spread grade worst age house won entries";
        String[] lines = kind == 0 ? new String[] {"want", "bar", "marks", "tie"}
            : kind == 1 ? new String[] {"bar"} : new String[] {"drop", "split", "join"};
        int bars = 0;
        String had = "";
        int many = random.nextInt(wild ? 11 : 6);
        for (int i = 0; i < many; i++) {
            String line = lines[random.nextInt(lines.length)];
            if (calm && kind < 2 && (line.equals("bar") || line.equals("want")) && random.nextInt(6) > 0) {
                continue;
            }
            if (!line.equals("bar") && had.contains(line) && !broken && random.nextInt(20) > 0) {
                continue;
            }
            had += line;
            if (line.equals("bar") && ++bars > 6 && !broken && !wild) {
                continue;
            }
            text.append(line).append(' ');
            switch (line) {
                case "want" -> text.append(wild ? random.nextInt(10) : 1 + random.nextInt(3)).append(" kind ")
                    .append(random.nextInt(wild ? 11 : 3));
                case "bar" -> {
                    text.append(random.nextInt(wild ? 110 : 100)).append(" when ").append(rareTest(facts));
                }
                case "marks", "tie" -> text.append(expression(facts, 0));
                default -> text.append("when ").append(expression(facts, 0));
            }
            text.append(coin() ? ";" : " ; ");
        }
        if (broken) {
            spoil(text);
        }
        for (int i = 0; i < text.length(); i += 24) {
            call("feed", Checks.pack(text.toString(), i), Checks.pack(text.toString(), i + 8),
                Checks.pack(text.toString(), i + 16));
        }
    }

    /** Mostly a bar that does not bar everything. */
    private String rareTest(String facts) {
        if (random.nextInt(3) == 0) {
            return expression(facts, 0);
        }
        String[] all = facts.split(" ");
        String fact = all[random.nextInt(all.length)];
        return coin() ? fact + "=" + random.nextInt(12) : (40 + random.nextInt(60)) + "<" + fact + " and 1";
    }

    private String expression(String facts, int depth) {
        StringBuilder text = new StringBuilder();
        String[] joins = {" and ", " or ", "<", "=", "+", "-", "*", " + ", "-", " * "};
        int many = 1 + random.nextInt(depth == 0 ? 4 : 3);
        boolean tested = false;
        for (int i = 0; i < many; i++) {
            if (i > 0) {
                int join = random.nextInt(joins.length);
                if (join == 2 || join == 3) {
                    join = tested ? 4 : join;
                    tested = true;
                } else if (join < 2) {
                    tested = false;
                }
                text.append(joins[join]);
            }
            text.append(part(facts, depth));
        }
        return text.toString();
    }

    private String part(String facts, int depth) {
        String[] all = facts.split(" ");
        int dice = random.nextInt(depth >= 4 && !wild || depth > 6 ? 7 : wild ? 11 : 10);
        if (dice < 5) {
            return all[random.nextInt(all.length)];
        }
        if (dice < 7) {
            return Integer.toString(random.nextInt(random.nextInt(4) == 0 ? 10000 : 20));
        }
        if (dice == 7) {
            return "not " + part(facts, depth + 1);
        }
        return "(" + expression(facts, depth + 1) + ")";
    }

    private void spoil(StringBuilder text) {
        String[] odd = {"(", ")", "not ", "and ", "5", "12345", "kind ", "when ", ";", "<", "A", ">", "_", "want ", "bar ",
            "marks ", "tie ", "drop ", "split ", "join ", "age ", "now ", "((((((", "not not not not not not ", "  ", "\n",
            "abcdefghi ", "abcdefgh ", "0", "100 ", "bar 1 when 1;bar 1 when 1;bar 1 when 1;bar 1 when 1;"};
        for (int i = 0; i <= random.nextInt(2); i++) {
            int at = random.nextInt(text.length() + 1);
            if (coin() || at >= text.length()) {
                text.insert(at, odd[random.nextInt(odd.length)]);
            } else if (coin()) {
                text.deleteCharAt(at);
            } else {
                text.setLength(at);
            }
        }
    }

    // ---- both sides

    private void call(String name, long... a) {
        if (calls >= 512 || wrong > 0) {
            return;
        }
        calls++;
        String want = ask(name, a, true);
        String got = ask(name, a, false);
        told.append(name).append(Arrays.toString(a)).append(" answered ").append(got).append('\n');
        int at = Arrays.asList(NAMES).indexOf(name);
        asked[at]++;
        if (!got.equals("-1") && !got.equals("false") && !got.startsWith("throws")) {
            spoken[at]++;
        }
        if (!want.equals(got) && !want.equals(Integer.toString(Oracle.TOO_DEAR))) {
            wrong++;
            told.append("due is ").append(want).append('\n');
        }
    }

    private String ask(String name, long[] a, boolean oracleAsked) {
        int[] i = new int[a.length];
        for (int k = 0; k < a.length; k++) {
            i[k] = (int) a[k];
        }
        try {
            return oracleAsked ? askOracle(name, a, i) : askShow(name, a, i);
        } catch (NoSuchElementException e) {
            return "throws";
        }
    }

    private String askShow(String name, long[] a, int[] i) {
        VillageShow x = show;
        return switch (name) {
            case "exhibitor" -> "" + x.exhibitor(i[0], i[1], i[2], i[3] == 1);
            case "piece" -> "" + x.piece(i[0], i[1], i[2], i[3], i[4]);
            case "feed" -> "" + x.feed(a[0], a[1], a[2]);
            case "schedule" -> "" + x.schedule(i[0]);
            case "book" -> "" + x.book();
            case "plan" -> "" + x.plan();
            case "entry" -> "" + x.entry(i[0], i[1], a[2], i[3]);
            case "verdict" -> "" + x.verdict(i[0]);
            case "fact" -> "" + x.fact(i[0], i[1]);
            case "clash" -> "" + x.clash(i[0], i[1]);
            case "strike" -> "" + x.strike(i[0]);
            case "lost" -> "" + x.lost(i[0], i[1]);
            case "judge" -> "" + x.judge(i[0], i[1]);
            case "lean" -> "" + x.lean(i[0], i[1], i[2]);
            case "kin" -> "" + x.kin(i[0], i[1]);
            case "marks" -> "" + x.marks(i[0], i[1]);
            case "place" -> "" + x.place(i[0], i[1]);
            case "judged" -> "" + x.judged(i[0], i[1]);
            case "span" -> "" + x.span(i[0], i[1]);
            case "table" -> "" + x.table(i[0], i[1]);
            case "lay" -> "" + x.lay(i[0], i[1], i[2]);
            case "taken" -> "" + x.taken(i[0], i[1] == 1);
            case "moves" -> "" + x.moves(i[0] == 1, i[1]);
            case "cap" -> "" + x.cap(i[0]);
            case "round" -> "" + x.round(i[0]);
            case "prize" -> "" + x.prize(i[0], i[1], i[2]);
            case "fees" -> "" + x.fees(i[0], i[1]);
            case "points" -> "" + x.points(i[0] == 1, i[1]);
            case "cup" -> "" + x.cup();
            case "can" -> "" + x.can(i[0]);
            case "protest" -> "" + x.protest(i[0], i[1]);
            case "money" -> "" + x.money(i[0]);
            case "sets" -> "" + x.sets(i[0], i[1], i[2], i[3]);
            case "year" -> "" + x.year(i[0], i[1], i[2]);
            case "planned" -> "" + x.planned(i[0], i[1]);
            case "mark" -> "" + x.mark(i[0], i[1] == 1);
            case "count" -> "" + x.count(i[0]);
            default -> throw new IllegalStateException(name);
        };
    }

    private String askOracle(String name, long[] a, int[] i) {
        Oracle x = oracle;
        return switch (name) {
            case "exhibitor" -> "" + x.exhibitor(i[0], i[1], i[2], i[3] == 1);
            case "piece" -> "" + x.piece(i[0], i[1], i[2], i[3], i[4]);
            case "feed" -> "" + x.feed(a[0], a[1], a[2]);
            case "schedule" -> "" + x.schedule(i[0]);
            case "book" -> "" + x.book();
            case "plan" -> "" + x.plan();
            case "entry" -> "" + x.entry(i[0], i[1], a[2], i[3]);
            case "verdict" -> "" + x.verdict(i[0]);
            case "fact" -> "" + x.fact(i[0], i[1]);
            case "clash" -> "" + x.clash(i[0], i[1]);
            case "strike" -> "" + x.strike(i[0]);
            case "lost" -> "" + x.lost(i[0], i[1]);
            case "judge" -> "" + x.judge(i[0], i[1]);
            case "lean" -> "" + x.lean(i[0], i[1], i[2]);
            case "kin" -> "" + x.kin(i[0], i[1]);
            case "marks" -> "" + x.marks(i[0], i[1]);
            case "place" -> "" + x.place(i[0], i[1]);
            case "judged" -> "" + x.judged(i[0], i[1]);
            case "span" -> "" + x.span(i[0], i[1]);
            case "table" -> "" + x.table(i[0], i[1]);
            case "lay" -> "" + x.lay(i[0], i[1], i[2]);
            case "taken" -> "" + x.taken(i[0], i[1] == 1);
            case "moves" -> "" + x.moves(i[0] == 1, i[1]);
            case "cap" -> "" + x.cap(i[0]);
            case "round" -> "" + x.round(i[0]);
            case "prize" -> "" + x.prize(i[0], i[1], i[2]);
            case "fees" -> "" + x.fees(i[0], i[1]);
            case "points" -> "" + x.points(i[0] == 1, i[1]);
            case "cup" -> "" + x.cup();
            case "can" -> "" + x.can(i[0]);
            case "protest" -> "" + x.protest(i[0], i[1]);
            case "money" -> "" + x.money(i[0]);
            case "sets" -> "" + x.sets(i[0], i[1], i[2], i[3]);
            case "year" -> "" + x.year(i[0], i[1], i[2]);
            case "planned" -> "" + x.planned(i[0], i[1]);
            case "mark" -> "" + x.mark(i[0], i[1] == 1);
            case "count" -> "" + x.count(i[0]);
            default -> throw new IllegalStateException(name);
        };
    }
}
