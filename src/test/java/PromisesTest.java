/** Each promise by its number: ordinary inputs, the edges that the document names, and wrong inputs. */
public final class PromisesTest {
    private static final int NONE = VillageShow.NONE;
    private static final int LOW = Integer.MIN_VALUE;
    private static final int HIGH = Integer.MAX_VALUE;
    private static final Checks c = new Checks("PromisesTest");

    public static void main(String[] args) {
        newObject();
        exhibitor();
        piece();
        feed();
        tokens();
        scheduleFaults();
        scheduleStays();
        expressions();
        book();
        plan();
        entry();
        verdict();
        fact();
        clash();
        strike();
        lost();
        judges();
        marksAndPlaces();
        ties();
        judged();
        span();
        tables();
        moves();
        rounds();
        prizes();
        cup();
        can();
        canLimits();
        protest();
        money();
        sets();
        setsLimits();
        years();
        planned();
        mark();
        count();
        c.end();
    }

    // ---- helpers

    /** Exhibitors 0 to 9, each of house who % 6, age 10 + who, not won; pieces 4 * who .. 4 * who + 3, kind 1. */
    private static VillageShow village() {
        VillageShow x = new VillageShow();
        for (int who = 0; who < 10; who++) {
            x.exhibitor(who, who % 6, 10 + who, false);
            for (int i = 0; i < 4; i++) {
                x.piece(4 * who + i, who, 1, 10 + i, who);
            }
        }
        return x;
    }

    private static long bit(int piece) {
        return 1L << piece;
    }

    // ---- promises

    private static void newObject() {
        VillageShow x = new VillageShow();
        for (int what = 0; what <= 10; what++) {
            c.due("1: count(" + what + ") of a new object", x.count(what), 0);
        }
        c.due("1: no class is told", x.kin(0, 0), NONE);
        c.due("1: no cup", x.cup(), 0);
        c.due("1: no moves", x.moves(false, 0), 0);
        c.due("1: no walks", x.round(0), 0);
        c.due("1: nothing is taken", x.taken(0, true), 0);
        c.no("1: no mark is laid", x.mark(0, true));
    }

    private static void exhibitor() {
        VillageShow x = new VillageShow();
        c.yes("2: first", x.exhibitor(0, 0, 1, false));
        c.yes("2: last", x.exhibitor(9, 5, 99, true));
        int[] wrong = {-1, 10, LOW, HIGH};
        for (int n : wrong) {
            c.no("2: exhibitor " + n, x.exhibitor(n, 0, 1, false));
        }
        c.no("2: house -1", x.exhibitor(1, -1, 1, false));
        c.no("2: house 6", x.exhibitor(1, 6, 1, false));
        c.no("2: age 0", x.exhibitor(1, 0, 0, false));
        c.no("2: age 100", x.exhibitor(1, 0, 100, false));
        c.due("2: two are told", x.count(0), 2);
        x.piece(0, 0, 0, 1, 0);
        Checks.schedule(x, 0, "");
        x.entry(0, 0, 1, 0);
        c.yes("2: again, though there is an entry", x.exhibitor(0, 4, 77, true));
        c.due("2: still two", x.count(0), 2);
        c.due("2: the entry's age is the new one", x.fact(0, 7), 77);
        c.due("2: the entry's house is the new one", x.fact(0, 8), 4);
        c.due("2: the entry's won is the new one", x.fact(0, 9), 1);
    }

    private static void piece() {
        VillageShow x = new VillageShow();
        x.exhibitor(0, 0, 1, false);
        x.exhibitor(1, 0, 1, false);
        c.yes("3: first", x.piece(0, 0, 0, 1, 0));
        c.yes("3: last", x.piece(39, 1, 9, 99, 9));
        int[] wrong = {-1, 40, LOW, HIGH};
        for (int n : wrong) {
            c.no("3: piece " + n, x.piece(n, 0, 0, 1, 0));
        }
        c.no("3: exhibitor not told", x.piece(1, 2, 0, 1, 0));
        c.no("3: exhibitor -1", x.piece(1, -1, 0, 1, 0));
        c.no("3: exhibitor 10", x.piece(1, 10, 0, 1, 0));
        c.no("3: kind -1", x.piece(1, 0, -1, 1, 0));
        c.no("3: kind 10", x.piece(1, 0, 10, 1, 0));
        c.no("3: size 0", x.piece(1, 0, 0, 0, 0));
        c.no("3: size 100", x.piece(1, 0, 0, 100, 0));
        c.no("3: grade -1", x.piece(1, 0, 0, 1, -1));
        c.no("3: grade 10", x.piece(1, 0, 0, 1, 10));
        c.due("3: two are told", x.count(1), 2);
        Checks.schedule(x, 0, "");
        c.due("3: an entry", x.entry(0, 0, 1, 0), 0);
        c.no("3: in an entry that stands", x.piece(0, 0, 0, 5, 5));
        c.due("3: it is as it was", x.fact(0, 3), 1);
        x.strike(0);
        c.yes("3: the entry is struck, and the piece may go to another", x.piece(0, 1, 3, 50, 5));
        c.due("3: the struck entry has the piece as it is now", x.fact(0, 3), 50);
        c.due("3: it is the other's", x.entry(0, 1, 1, 0), 1);
    }

    private static void feed() {
        VillageShow x = new VillageShow();
        c.due("4: highest first", x.feed(0x2020202020203b3bL, 0, 0), 8);
        c.due("4: fault at the first ;", x.book(), 1 + 16 * 6);
        c.due("4: others are left out", x.feed(0x0a0b097f80ff1f20L, -1L, 0x7e00000000000000L), 3);
        c.due("4: 126 is kept: it is no token", x.book(), 1 + 16 * 2);
        for (int i = 1; i <= 41; i++) {
            c.due("4: 24 signs more", x.feed(0x2020202020202020L, 0x2020202020202020L, 0x2020202020202020L), 24L * i);
        }
        c.due("4: 1,000 at most", x.feed(0x2020202020202020L, 0x2020202020202020L, 0x2020202020202020L), 1000);
        c.due("4: no more", x.feed(0x3b00000000000000L, 0, 0), 1000);
        c.due("4: counted", x.count(9), 1000);
        c.due("4: the tape is read", x.book(), 0);
        c.due("4: and empty", x.count(9), 0);
        Checks.feed(x, " ".repeat(999) + "xy");
        c.due("4: the 1,001st sign is left out", x.book(), 1 + 16 * 999);
    }

    private static void fault(String text, int kind, int place) {
        VillageShow x = new VillageShow();
        c.due("5: " + text, Checks.schedule(x, 0, text), kind == 0 ? 0 : kind + 16 * place);
        c.due("5: told after " + text, x.count(2), kind == 0 ? 1 : 0);
        c.due("5: the tape is empty after " + text, x.count(9), 0);
    }

    private static void tokens() {
        fault("", 0, 0);
        fault("  \n ", 0, 0);
        fault("want2kind4;", 0, 0);
        fault("want 0002 kind 0009 ;", 0, 0);
        fault("want 00002 kind 9;", 1, 5);
        fault("bar0when1and2or3;", 0, 0);
        fault("marks\n12\n*\nage ;\n", 0, 0);
        fault("marks 9999;", 0, 0);
        fault("marks 10000;", 1, 6);
        fault("marks abcdefghi;", 1, 6);
        fault("marks entries;", 0, 0);
        fault("markss 1;", 1, 0);
        fault("Marks 1;", 1, 0);
        fault("marks 1>2;", 1, 7);
        fault("marks 1!;", 1, 7);
        fault("marks ag e;", 1, 6);
        fault("marks 1 2;", 1, 8);
        fault("marks 12 34;", 1, 9);
        fault(" marks", 1, 6);
        fault(" marks  ", 1, 8);
        fault("marks 1", 1, 7);
        fault("marks 1  ", 1, 9);
        fault(";", 1, 0);
        fault("marks 1;;", 1, 8);
        fault("1", 1, 0);
    }

    private static void scheduleFaults() {
        fault("want 1 kind 0;", 0, 0);
        fault("want 8 kind 9;", 0, 0);
        fault("want 0 kind 9;", 4, 5);
        fault("want 9 kind 9;", 4, 5);
        fault("want 1 kind 10;", 4, 12);
        fault("want kind 1;", 1, 5);
        fault("want 1 kinds 1;", 1, 7);
        fault("want 1 kind 1", 1, 13);
        fault("want 1 kind 1 + 1;", 1, 14);
        fault("bar 0 when 1;bar 99 when 1;", 0, 0);
        fault("bar 100 when 1;", 4, 4);
        fault("bar 1 1;", 1, 6);
        fault("bar 1 when ;", 1, 11);
        fault("bar age when 1;", 1, 4);
        fault("tie 1;marks 1;want 1 kind 1;bar 1 when 1;", 0, 0);
        fault("want 1 kind 1;tie 1;want 1 kind 1;", 3, 20);
        fault("marks 1;bar 1 when 1;marks 1;", 3, 21);
        fault("tie 1;tie 1;", 3, 6);
        fault("tie 1;tie", 3, 6);
        String bars = "bar 1 when 1;".repeat(6);
        fault(bars, 0, 0);
        fault(bars + "bar 1 when 1;", 5, bars.length());
        fault(bars + "marks 1; bar", 5, bars.length() + 9);
        fault(bars + "bars", 1, bars.length());
        fault("drop when 1;", 1, 0);
        fault("join when 1;", 1, 0);
        fault("marks when 1;", 1, 6);
        fault("marks kind;", 1, 6);
        fault("marks want;", 1, 6);
        fault("marks ((((1))));", 0, 0);
        fault("marks (((((1)))));", 5, 11);
        fault("marks ((((((1))))));", 5, 11);
        fault("marks not not not not 1;", 0, 0);
        fault("marks not not not not not age;", 5, 26);
        fault("marks not not not not not not 1;", 5, 26);
        fault("marks not(not(not 1));", 5, 18);
        fault("marks not(not(1));", 0, 0);
        fault("marks ((((1))))+((((age))));", 0, 0);
        fault("marks (((((x)))));", 1, 11);
        fault("marks ((((()))));", 1, 11);
        fault("marks (((((now)))));", 1, 11);
        fault("marks (((((", 1, 11);
        fault("marks ((((1)));", 1, 14);
        fault("marks (1));", 1, 9);
        fault("marks ();", 1, 7);
        fault("marks 1<2<3;", 1, 9);
        fault("marks 1<2=3;", 1, 9);
        fault("marks (1<2)=3;", 0, 0);
        fault("marks 1<2 and 2=2 or 3<1;", 0, 0);
        fault("marks 1 and;", 1, 11);
        fault("marks and 1;", 1, 6);
        fault("marks -1;", 1, 6);
        fault("marks 1+-1;", 1, 8);
        fault("marks 1*not 1;", 0, 0);
        fault("marks 1 not 1;", 1, 8);
        // the first token from the left that is wrong, whatever comes behind it
        fault("want 9 kind 10;want", 4, 5);
        fault("marks 1;marks x", 3, 8);
    }

    private static void scheduleStays() {
        VillageShow x = village();
        c.due("5: a schedule", Checks.schedule(x, 3, "want 2 kind 1;"), 0);
        c.due("5: a fault", Checks.schedule(x, 3, "want 3 kind 1;x"), 1 + 16 * 14);
        c.due("5: it stays as it was", x.clash(3, 0), 0);
        x.entry(3, 0, 3, 0);
        c.due("5: two are still wanted", x.verdict(0), NONE);
        for (int kind : new int[] {-1, 10, LOW, HIGH}) {
            Checks.feed(x, "marks 1;");
            c.due("5: no such class " + kind, x.schedule(kind), -1);
            c.due("5: the tape is empty", x.count(9), 0);
        }
        c.due("5: an empty tape is a schedule", x.schedule(3), 0);
        c.due("5: in place of the former one", x.clash(3, 0), NONE);
        c.due("5: one class", x.count(2), 1);
        c.due("5: the entry is still there", x.count(4), 1);
        c.yes("5: classes 0 and 9 are there", Checks.schedule(x, 0, "") == 0 && Checks.schedule(x, 9, "") == 0);
    }

    private static void worth(String e, int due) {
        VillageShow x = new VillageShow();
        x.exhibitor(0, 4, 33, true);
        x.judge(0, 0);
        x.piece(0, 0, 2, 30, 7);
        x.piece(1, 0, 3, 80, 4);
        x.piece(2, 0, 3, 5, 9);
        c.due("2: " + e + " is read", Checks.schedule(x, 0, "marks " + e + ";"), 0);
        x.entry(0, 0, 7, 0);
        c.due("2: " + e, x.marks(0, 0), due);
    }

    private static void expressions() {
        worth("pieces", 3);
        worth("kinds", 2);
        worth("odd", 0);
        worth("size", 115);
        worth("spread", 75);
        worth("grade", 20);
        worth("worst", 4);
        worth("age", 33);
        worth("house", 4);
        worth("won", 1);
        worth("entries", 1);
        worth("2+3*4", 14);
        worth("(2+3)*4", 20);
        worth("10-3-2", 5);
        worth("10-(3-2)", 9);
        worth("2*3-4*5", -14);
        worth("1 or 1 and 0", 0);
        worth("0 and 0 or 1", 1);
        worth("1 or (1 and 0)", 1);
        worth("7 and 8", 1);
        worth("7 or 0", 1);
        worth("0 or 0", 0);
        worth("not 7", 0);
        worth("not 0", 1);
        worth("not not 7", 1);
        worth("not 0+5", 6);
        worth("not 1*5", 0);
        worth("not (1<0)", 1);
        worth("not 0<1", 0);
        worth("1<2", 1);
        worth("2<2", 0);
        worth("2=2", 1);
        worth("1+1=4-2", 1);
        worth("0-1<0", 1);
        worth("0-1 and 1", 1);
        worth("9999*9999", 99980001);
        worth("9999*9999*9999", 9999 * 9999 * 9999);
        worth("9999*9999*22+9999*9999", 9999 * 9999 * 22 + 9999 * 9999);
        worth("0-9999*9999*30", 0 - 9999 * 9999 * 30);
        worth("age*(grade-worst)", 528);
        worth("1<2 and 3<4 and 5=5", 1);
    }

    private static void book() {
        VillageShow x = village();
        Checks.schedule(x, 0, "");
        x.entry(0, 0, 1, 0);
        c.due("6: no book", x.verdict(0), NONE);
        c.due("6: a book", Checks.book(x, "bar 3 when age=11;bar 4 when age=10;bar 5 when 1;"), 0);
        c.due("6: three bars", x.count(8), 3);
        c.due("6: the first bar that holds", x.verdict(0), 4);
        c.due("6: a fault", Checks.book(x, "bar 3 when 1;marks 1;"), 1 + 16 * 13);
        c.due("6: it stays as it was", x.count(8), 3);
        c.due("6: want has no place there", Checks.book(x, "want 1 kind 1;"), 1);
        c.due("6: a number", Checks.book(x, "bar 100 when 1;"), 4 + 16 * 4);
        c.due("6: a seventh", Checks.book(x, "bar 1 when 0;".repeat(7)), 5 + 16 * 78);
        c.due("6: six", Checks.book(x, "bar 1 when 0;".repeat(6)), 0);
        c.due("6: six are there", x.count(8), 6);
        c.due("6: no fact of a plan", Checks.book(x, "bar 1 when last;"), 1 + 16 * 11);
        c.due("6: an empty one", x.book(), 0);
        c.due("6: is the book then", x.count(8), 0);
    }

    private static void plan() {
        VillageShow x = village();
        Checks.schedule(x, 0, "");
        c.due("7: a plan", Checks.plan(x, "join when 1; split when 0 ;drop when 0;"), 0);
        c.due("7: it holds", x.planned(0, 0), 3);
        c.due("7: a fault", Checks.plan(x, "drop when 1;drop"), 3 + 16 * 12);
        c.due("7: it stays as it was", x.planned(0, 0), 3);
        c.due("7: split again", Checks.plan(x, "split when 1;join when 1;split when 1;"), 3 + 16 * 25);
        c.due("7: join again", Checks.plan(x, "join when 1;join when 1;"), 3 + 16 * 12);
        c.due("7: without when", Checks.plan(x, "join 1;"), 1 + 16 * 5);
        c.due("7: bar has no place there", Checks.plan(x, "bar 1 when 1;"), 1);
        c.due("7: no fact of an entry", Checks.plan(x, "join when pieces;"), 1 + 16 * 10);
        c.due("7: all its facts", Checks.plan(x, "drop when now+last+most+least+mean+years+kind+wanted;"), 0);
        c.due("7: an empty one", x.plan(), 0);
        c.due("7: is the plan then", x.planned(0, 0), 0);
    }

    private static void entry() {
        VillageShow x = village();
        c.due("8: not told", x.entry(0, 0, 1, 0), NONE);
        Checks.schedule(x, 0, "");
        Checks.schedule(x, 1, "want 8 kind 9;");
        c.due("8: no such class", x.entry(10, 0, 1, 0), NONE);
        c.due("8: class -1", x.entry(-1, 0, 1, 0), NONE);
        c.due("8: exhibitor -1", x.entry(0, -1, 1, 0), NONE);
        c.due("8: exhibitor 10", x.entry(0, 10, 1, 0), NONE);
        c.due("8: no pieces", x.entry(0, 0, 0, 0), NONE);
        c.due("8: another's", x.entry(0, 0, 1 << 4, 0), NONE);
        c.due("8: one of another's", x.entry(0, 0, 1 | 1 << 4, 0), NONE);
        c.due("8: bit 40", x.entry(0, 0, 1L << 40 | 1, 0), NONE);
        c.due("8: bit 63", x.entry(0, 0, 1L << 63 | 1, 0), NONE);
        c.due("8: jars -1", x.entry(0, 0, 1, -1), NONE);
        c.due("8: jars 10", x.entry(0, 0, 1, 10), NONE);
        c.due("8: the first one", x.entry(0, 0, 1, 9), 0);
        c.due("8: in another one", x.entry(1, 0, 3, 0), NONE);
        c.due("8: barred ones are taken, too", x.entry(1, 9, bit(39) | bit(38), 0), 1);
        x.strike(0);
        c.due("8: free again", x.entry(1, 0, 3, 0), 2);

        VillageShow y = new VillageShow();
        y.exhibitor(0, 0, 1, false);
        Checks.schedule(y, 0, "");
        for (int i = 0; i < 40; i++) {
            y.piece(i, 0, 0, 1, 0);
        }
        c.due("8: nine pieces", y.entry(0, 0, 0x1ff, 0), NONE);
        c.due("8: eight pieces", y.entry(0, 0, 0xffL << 32, 0), 0);
        y.strike(0);
        for (int i = 0; i < 39; i++) {
            c.due("8: in order", y.entry(0, 0, 1L << i, 0), i + 1);
        }
        c.due("8: 40 are there", y.entry(0, 0, 1L << 39, 0), NONE);
        y.strike(5);
        c.due("8: struck ones count", y.entry(0, 0, 1L << 39, 0), NONE);
        c.due("8: 40", y.count(3), 40);
    }

    private static void verdict() {
        VillageShow x = village();
        c.refused("9: none there", () -> x.verdict(0));
        Checks.schedule(x, 0, "bar 7 when 12<size;want 2 kind 1;bar 8 when entries=2;");
        Checks.schedule(x, 1, "");
        x.piece(2, 0, 2, 1, 1);
        x.entry(0, 0, 1, 0);
        c.due("9: too few", x.verdict(0), 100);
        x.entry(0, 1, bit(4) | bit(5) | bit(6), 0);
        c.due("9: too many", x.verdict(1), 100);
        x.entry(0, 0, bit(1) | bit(2), 0);
        c.due("9: an odd one", x.verdict(2), 100);
        x.entry(0, 2, bit(8) | bit(9), 0);
        c.due("9: barred by the class", x.verdict(3), 7);
        Checks.schedule(x, 0, "bar 7 when 99<size;want 2 kind 1;bar 8 when entries=2;");
        c.due("9: the class is told anew", x.verdict(3), NONE);
        Checks.book(x, "bar 0 when age=12;");
        c.due("9: barred by the book", x.verdict(3), 0);
        x.entry(0, 2, bit(10) | bit(11), 0);
        c.due("9: the class's bar comes first", x.verdict(3), 8);
        x.strike(4);
        c.due("9: one entry stands: the book's", x.verdict(3), 0);
        c.due("9: a struck one, too", x.verdict(4), 0);
        x.entry(1, 3, bit(12), 0);
        c.due("9: nothing is wanted", x.verdict(5), NONE);
        c.refused("9: -1", () -> x.verdict(-1));
        c.refused("9: beyond", () -> x.verdict(6));
        c.refused("9: far beyond", () -> x.verdict(HIGH));
        c.refused("9: far below", () -> x.verdict(LOW));
    }

    private static void fact() {
        VillageShow x = new VillageShow();
        x.exhibitor(3, 4, 33, true);
        x.piece(7, 3, 2, 30, 7);
        x.piece(8, 3, 3, 80, 4);
        x.piece(39, 3, 3, 5, 9);
        x.piece(1, 3, 3, 5, 9);
        Checks.schedule(x, 6, "want 2 kind 3;");
        x.entry(6, 3, bit(7) | bit(8) | bit(39), 2);
        int[] due = {3, 2, 1, 115, 75, 20, 4, 33, 4, 1, 1, 6, 3, 1};
        for (int what = 0; what < due.length; what++) {
            c.due("10: fact " + what, x.fact(0, what), due[what]);
        }
        x.entry(6, 3, bit(1), 0);
        c.due("10: two entries", x.fact(0, 10), 2);
        x.strike(0);
        c.due("10: one stands", x.fact(1, 10), 1);
        c.due("10: of a struck one, too", x.fact(0, 10), 1);
        c.due("10: it does not stand", x.fact(0, 13), 0);
        c.due("10: its pieces", x.fact(0, 0), 3);
        Checks.schedule(x, 6, "");
        c.due("10: nothing is odd without want", x.fact(0, 2), 0);
        x.exhibitor(3, 0, 33, false);
        c.due("10: not won", x.fact(0, 9), 0);
        c.refused("10: what -1", () -> x.fact(0, -1));
        c.refused("10: what 14", () -> x.fact(0, 14));
        c.refused("10: entry -1", () -> x.fact(-1, 0));
        c.refused("10: entry 2", () -> x.fact(2, 0));
    }

    private static void clash() {
        VillageShow x = new VillageShow();
        c.due("11: not told", x.clash(0, 0), NONE);
        Checks.schedule(x, 0, "bar 1 when 1;");
        c.due("11: without want", x.clash(0, 0), NONE);
        Checks.schedule(x, 0, "want 3 kind 7;bar 9 when 89<age;");
        c.due("11: ages", x.clash(0, 0), 10);
        c.due("11: the word", x.clash(0, 1), 9);
        Checks.book(x, "bar 5 when age=4;bar 6 when 91<age;");
        c.due("11: with the book", x.clash(0, 0), 11);
        c.due("11: the first age's word", x.clash(0, 1), 5);
        c.due("11: another what", x.clash(0, 2), NONE);
        c.due("11: what -1", x.clash(0, -1), NONE);
        c.due("11: class 10", x.clash(10, 0), NONE);
        c.due("11: class -1", x.clash(-1, 0), NONE);
        x.book();
        Checks.schedule(x, 0, "want 3 kind 7;bar 2 when not(pieces=3 and kinds=1 and odd=0 and size=150 and spread=0"
            + " and grade=27 and worst=9 and house=0 and won=0 and entries=1);");
        c.due("11: none, by all its facts", x.clash(0, 0), 0);
        c.due("11: and no word", x.clash(0, 1), NONE);
        Checks.book(x, "bar 2 when pieces=3 and kinds=1 and odd=0 and size=150 and spread=0 and grade=27 and worst=9"
            + " and house=0 and won=0 and entries=1;");
        c.due("11: all", x.clash(0, 0), 99);
    }

    private static void strike() {
        VillageShow x = village();
        Checks.schedule(x, 0, "");
        x.entry(0, 0, 1, 0);
        c.no("12: -1", x.strike(-1));
        c.no("12: beyond", x.strike(1));
        c.no("12: far beyond", x.strike(64));
        c.yes("12: it stands", x.strike(0));
        c.no("12: not twice", x.strike(0));
        c.due("12: there", x.count(3), 1);
        c.due("12: but none stands", x.count(4), 0);
    }

    private static void lost() {
        VillageShow x = village();
        Checks.schedule(x, 0, "");
        x.entry(0, 0, 1, 3);
        x.entry(0, 1, bit(4), 9);
        c.no("13: more than it has", x.lost(0, 4));
        c.no("13: below 0", x.lost(0, -1));
        c.no("13: none such", x.lost(2, 0));
        c.no("13: none such", x.lost(-1, 0));
        c.yes("13: all", x.lost(0, 3));
        c.yes("13: of the other one", x.lost(1, 5));
        c.due("13: in all", x.count(10), 8);
        c.yes("13: in place of what was told", x.lost(0, 1));
        c.due("13: in all", x.count(10), 6);
        x.strike(0);
        c.yes("13: of a struck one, too", x.lost(0, 2));
        c.due("13: in all", x.count(10), 7);
        c.yes("13: none", x.lost(0, 0));
        c.due("13: in all", x.count(10), 5);
    }

    private static void judges() {
        VillageShow x = village();
        Checks.schedule(x, 0, "marks 10;");
        x.entry(0, 1, bit(4), 0);
        c.yes("14: first", x.judge(0, 0));
        c.yes("14: last", x.judge(3, 5));
        c.no("14: judge -1", x.judge(-1, 0));
        c.no("14: judge 4", x.judge(4, 0));
        c.no("14: house -1", x.judge(1, -1));
        c.no("14: house 6", x.judge(1, 6));
        c.due("14: two", x.count(7), 2);
        c.no("15: not told", x.lean(1, 0, 1));
        c.no("15: judge -1", x.lean(-1, 0, 1));
        c.no("15: judge 4", x.lean(4, 0, 1));
        c.no("15: house -1", x.lean(0, -1, 1));
        c.no("15: house 6", x.lean(0, 6, 1));
        c.no("15: -10", x.lean(0, 1, -10));
        c.no("15: 10", x.lean(0, 1, 10));
        c.due("15: none at first", x.marks(0, 0), 10);
        c.yes("15: -9", x.lean(0, 1, -9));
        c.due("15: less", x.marks(0, 0), 1);
        c.yes("15: 9", x.lean(0, 1, 9));
        c.due("15: more", x.marks(0, 0), 19);
        c.yes("15: for another house", x.lean(0, 2, 5));
        c.due("15: as before", x.marks(0, 0), 19);
        c.due("15: the other judge", x.marks(0, 3), 10);
        c.yes("14: again", x.judge(0, 1));
        c.due("14: leans stay", x.marks(0, 0), 19);
        c.due("16: kin", x.kin(0, 0), 1);
        c.due("16: no kin", x.kin(3, 0), 0);
        c.due("16: judge not told", x.kin(1, 0), NONE);
        c.due("16: judge 4", x.kin(4, 0), NONE);
        c.due("16: judge -1", x.kin(-1, 0), NONE);
        c.due("16: class not told", x.kin(0, 1), NONE);
        c.due("16: class 10", x.kin(0, 10), NONE);
        c.due("16: class -1", x.kin(0, -1), NONE);
        Checks.book(x, "bar 1 when 1;");
        c.due("16: also by one that is out", x.kin(0, 0), 1);
        x.strike(0);
        c.due("16: not by a struck one", x.kin(0, 0), 0);
    }

    private static void marksAndPlaces() {
        VillageShow x = village();
        x.judge(0, 5);
        x.judge(1, 0);
        Checks.schedule(x, 2, "marks grade*2;bar 1 when size=13;");
        for (int who = 0; who < 4; who++) {
            x.entry(2, who, bit(4 * who), 0);
        }
        x.entry(2, 4, bit(19), 0);
        c.due("17: marks", x.marks(3, 0), 6);
        c.due("17: of one that is out", x.marks(4, 0), 8);
        c.due("17: by kin", x.marks(3, 1), 6);
        c.refused("17: no such entry", () -> x.marks(5, 0));
        c.refused("17: no such entry", () -> x.marks(-1, 0));
        c.refused("17: judge not told", () -> x.marks(0, 2));
        c.refused("17: judge 4", () -> x.marks(0, 4));
        c.refused("17: judge -1", () -> x.marks(0, -1));
        c.due("18: the first", x.place(3, 0), 1);
        c.due("18: the last", x.place(0, 0), 4);
        c.due("18: out", x.place(4, 0), NONE);
        c.due("18: by kin", x.place(0, 1), 4);
        c.due("18: not judged", x.place(0, NONE), NONE);
        c.due("18: judge not told", x.place(0, 2), NONE);
        c.due("18: judge 4", x.place(0, 4), NONE);
        c.due("18: judge -2", x.place(0, -2), NONE);
        c.due("18: no such entry", x.place(5, 0), NONE);
        c.due("18: no such entry", x.place(-1, 0), NONE);
        x.lean(0, 0, 9);
        c.due("18: a lean", x.place(0, 0), 1);
        c.due("18: the others follow", x.place(3, 0), 2);
        c.due("18: by the other judge", x.place(3, 1), 1);
        x.judged(2, 0);
        c.due("18: as judged", x.place(0, NONE), 1);
        x.strike(3);
        c.due("18: struck", x.place(3, NONE), NONE);
        c.due("18: struck, by a judge", x.place(3, 0), NONE);
        c.due("17: struck ones have marks", x.marks(3, 0), 6);
        c.due("18: one less is ahead", x.place(2, NONE), 2);
    }

    private static void ties() {
        VillageShow x = village();
        x.judge(0, 5);
        Checks.schedule(x, 0, "marks 5;tie 0-age;");
        x.entry(0, 2, bit(8), 0);
        x.entry(0, 1, bit(4), 0);
        x.entry(0, 2, bit(9), 0);
        x.entry(0, 3, bit(12), 0);
        int[] due = {2, 1, 2, 4};
        for (int entry = 0; entry < 4; entry++) {
            c.due("18: by tie, the greatest first", x.place(entry, 0), due[entry]);
        }
        Checks.schedule(x, 0, "tie 1;");
        for (int entry = 0; entry < 4; entry++) {
            c.due("18: all alike", x.place(entry, 0), 1);
        }
        Checks.schedule(x, 0, "tie 0-age;marks age=13;");
        int[] then = {3, 2, 3, 1};
        for (int entry = 0; entry < 4; entry++) {
            c.due("18: marks before ties", x.place(entry, 0), then[entry]);
        }
        Checks.schedule(x, 0, "marks 9999*9999*21+9999*4760;tie age;");
        x.lean(0, 1, 9);
        int great = 9999 * 9999 * 21 + 9999 * 4760;
        c.due("17: marks wrap", x.marks(1, 0), great + 9);
    }

    private static void judged() {
        VillageShow x = village();
        Checks.schedule(x, 1, "");
        x.judge(0, 0);
        x.judge(1, 1);
        x.entry(1, 0, 1, 0);
        c.no("19: not told", x.judged(0, 1));
        c.no("19: not told, none", x.judged(0, NONE));
        c.no("19: class -1", x.judged(-1, NONE));
        c.no("19: class 10", x.judged(10, 1));
        c.no("19: judge not told", x.judged(1, 2));
        c.no("19: judge 4", x.judged(1, 4));
        c.no("19: judge -2", x.judged(1, -2));
        c.no("19: kin", x.judged(1, 0));
        c.yes("19: none, though it was not", x.judged(1, NONE));
        c.yes("19: judged", x.judged(1, 1));
        c.due("19: one", x.count(6), 1);
        x.entry(1, 1, bit(4), 0);
        c.due("19: kin now, but it holds", x.place(0, NONE), 1);
        c.no("19: not again", x.judged(1, 1));
        c.due("19: it stays", x.count(6), 1);
        c.yes("19: not any more", x.judged(1, NONE));
        c.due("19: none", x.count(6), 0);
        c.due("19: no place", x.place(0, NONE), NONE);
    }

    private static void span() {
        VillageShow x = village();
        Checks.schedule(x, 0, "marks 10*(age=11);bar 3 when age=15;");
        x.entry(0, 1, bit(4), 0);
        x.entry(0, 2, bit(8), 0);
        x.entry(0, 3, bit(12), 0);
        x.entry(0, 5, bit(20), 0);
        c.due("20: no judge", x.span(0, 0), NONE);
        x.judge(0, 1);
        c.due("20: only kin", x.span(0, 0), NONE);
        x.judge(1, 4);
        x.judge(2, 4);
        x.lean(1, 2, 3);
        x.lean(2, 3, 4);
        x.lean(0, 3, 9);
        x.lean(0, 1, -9);
        c.due("20: least", x.span(1, 0), 2);
        c.due("20: greatest", x.span(1, 1), 3);
        c.due("20: least of the first", x.span(0, 0), 1);
        c.due("20: greatest of the first: not by kin", x.span(0, 1), 1);
        c.due("20: another what", x.span(0, 2), NONE);
        c.due("20: what -1", x.span(0, -1), NONE);
        c.due("20: out", x.span(3, 0), NONE);
        c.due("20: no such entry", x.span(4, 0), NONE);
        c.due("20: no such entry", x.span(-1, 0), NONE);
        x.strike(1);
        c.due("20: struck", x.span(1, 0), NONE);
        x.strike(0);
        x.lean(0, 3, -9);
        x.entry(0, 3, bit(13), 0);
        x.entry(0, 4, bit(16), 0);
        x.judge(1, 3);
        x.judge(2, 3);
        c.due("20: judge 0 is no kin now", x.span(2, 0), 2);
        x.lean(0, 3, 9);
        c.due("20: what judge 0 would have done", x.span(2, 0), 1);
    }

    private static void tables() {
        VillageShow x = village();
        c.yes("21: feet", x.table(0, 0));
        c.yes("21: feet", x.table(2, 99));
        c.no("21: table -1", x.table(-1, 1));
        c.no("21: table 3", x.table(3, 1));
        c.no("21: feet -1", x.table(0, -1));
        c.no("21: feet 100", x.table(0, 100));
        c.no("22: not told", x.lay(0, 0, 1));
        Checks.schedule(x, 0, "");
        Checks.schedule(x, 9, "");
        c.no("22: class -1", x.lay(-1, 0, 1));
        c.no("22: class 10", x.lay(10, 0, 1));
        c.no("22: table -1", x.lay(0, -1, 1));
        c.no("22: table 3", x.lay(0, 3, 1));
        c.no("22: foot -1", x.lay(0, 0, -1));
        c.no("22: foot 10", x.lay(0, 0, 10));
        x.entry(0, 0, 1, 0);
        x.entry(0, 1, bit(4), 0);
        x.entry(9, 2, bit(8), 0);
        c.due("23: table 0 and a foot at first", x.taken(0, false), 3);
        c.yes("22: laid", x.lay(0, 2, 9));
        c.due("23: moved away", x.taken(0, false), 1);
        c.due("23: there", x.taken(2, false), 18);
        c.yes("22: no foot", x.lay(9, 0, 0));
        c.due("23: takes nothing", x.taken(0, false), 0);
        x.strike(0);
        c.due("23: struck ones take nothing", x.taken(2, false), 9);
        Checks.book(x, "bar 1 when 1;");
        c.due("23: those that are out do", x.taken(2, false), 9);
        c.due("23: guessed, no years", x.taken(2, true), 0);
        x.year(0, 1, 4);
        x.year(0, 4, 7);
        x.year(5, 0, 50);
        c.due("23: guessed, the most", x.taken(2, true), 63);
        c.due("23: a class that is not told takes nothing", x.taken(0, true), 0);
        c.due("23: table -1", x.taken(-1, false), NONE);
        c.due("23: table 3", x.taken(3, true), NONE);
        Checks.schedule(x, 0, "marks 1;");
        c.due("22: told anew it lies where it lay", x.taken(2, true), 63);
    }

    private static void moves() {
        VillageShow x = village();
        for (int kind = 0; kind < 4; kind++) {
            Checks.schedule(x, kind, "");
            x.entry(kind, kind, bit(4 * kind), 0);
        }
        c.due("24: class 0 is not told", new VillageShow().moves(false, 1), NONE);
        c.due("24: no feet", x.moves(false, 0), NONE);
        c.due("24: no way, no table", x.moves(false, 1), NONE);
        x.lay(0, 0, 2);
        x.lay(1, 0, 3);
        x.lay(2, 0, 5);
        x.lay(3, 0, 1);
        x.table(0, 11);
        c.due("24: all fits", x.moves(false, 0), 0);
        c.due("24: all stay", x.moves(false, 3), 0);
        x.table(0, 8);
        x.table(1, 3);
        x.table(2, 3);
        c.due("24: one", x.moves(false, 0), 1);
        c.due("24: the first way leaves class 0", x.moves(false, 1), 0);
        c.due("24: and moves class 1 to the least table", x.moves(false, 2), 1);
        c.due("24: class 2 stays", x.moves(false, 3), 0);
        c.due("24: class 3 stays", x.moves(false, 4), 0);
        c.due("24: class 4 is not told", x.moves(false, 5), NONE);
        c.due("24: class 9 is not told", x.moves(false, 10), NONE);
        c.due("24: what 11", x.moves(false, 11), NONE);
        c.due("24: what -1", x.moves(false, -1), NONE);
        x.table(0, 5);
        c.due("24: three move", x.moves(false, 0), 3);
        int[] due = {1, 2, 0, 1};
        for (int kind = 0; kind < 4; kind++) {
            c.due("24: class " + kind, x.moves(false, 1 + kind), due[kind]);
        }
        x.table(0, 4);
        c.due("24: the great one fits nowhere", x.moves(false, 0), NONE);
        c.due("24: guessed, without years", x.moves(true, 0), 0);
        x.year(2, 2, 2);
        c.due("24: guessed, ten feet", x.moves(true, 0), NONE);
        x.table(2, 10);
        c.due("24: guessed", x.moves(true, 0), 1);
        c.due("24: guessed, where", x.moves(true, 3), 2);
        x.table(0, 0);
        x.table(2, 0);
        x.table(1, 20);
        c.due("24: all to one table", x.moves(false, 0), 4);
    }

    private static void rounds() {
        VillageShow x = village();
        for (int kind = 0; kind < 4; kind++) {
            Checks.schedule(x, kind, "");
            x.entry(kind, 1, bit(4 + kind), 0);
        }
        Checks.schedule(x, 4, "");
        c.due("26: no judge", x.round(0), NONE);
        c.due("26: no judge", x.round(1), NONE);
        x.judge(0, 5);
        c.due("26: four to one", x.round(0), 0);
        c.due("26: to the least", x.round(4), 0);
        c.due("26: no entry in it", x.round(5), NONE);
        c.due("26: not told", x.round(6), NONE);
        c.due("26: what 11", x.round(11), NONE);
        c.due("26: what -1", x.round(-1), NONE);
        x.entry(4, 2, bit(8), 0);
        c.due("26: the cap is 4 at first", x.round(0), NONE);
        c.no("25: 0", x.cap(0));
        c.no("25: 11", x.cap(11));
        c.no("25: below", x.cap(LOW));
        c.yes("25: 10", x.cap(10));
        c.due("26: five to one", x.round(0), 0);
        x.strike(4);
        c.due("26: no entry stands in it", x.round(5), NONE);
        c.yes("25: 1", x.cap(1));
        c.due("26: one each", x.round(0), NONE);
        c.yes("25: 4", x.cap(4));
        x.lay(0, 2, 1);
        x.lay(1, 0, 1);
        x.lay(2, 1, 1);
        x.lay(3, 0, 1);
        c.due("26: from the least to the greatest", x.round(0), 2);
        x.judge(1, 1);
        c.due("26: kin take nothing", x.round(0), 2);
        x.judge(1, 4);
        c.due("26: two judges", x.round(0), 1);
        int[] due = {0, 1, 0, 1};
        for (int kind = 0; kind < 4; kind++) {
            c.due("26: the first way, class " + kind, x.round(1 + kind), due[kind]);
        }
        x.judge(3, 0);
        c.due("26: three judges", x.round(0), 0);
        int[] then = {0, 1, 3, 1};
        for (int kind = 0; kind < 4; kind++) {
            c.due("26: each at a table, class " + kind, x.round(1 + kind), then[kind]);
        }
        x.cap(1);
        c.due("26: three take three", x.round(0), NONE);
        x.cap(2);
        x.lay(0, 0, 1);
        x.lay(2, 0, 1);
        c.due("26: four on one table", x.round(0), 0);
        int[] two = {0, 0, 1, 1};
        for (int kind = 0; kind < 4; kind++) {
            c.due("26: two each, class " + kind, x.round(1 + kind), two[kind]);
        }
    }

    private static void prizes() {
        VillageShow x = village();
        c.no("27: place 0", x.prize(0, 1, 1));
        c.no("27: place 4", x.prize(4, 1, 1));
        c.no("27: points -1", x.prize(1, -1, 1));
        c.no("27: points 100", x.prize(1, 100, 1));
        c.no("27: money -1", x.prize(1, 1, -1));
        c.no("27: money 1000", x.prize(1, 1, 1000));
        c.no("28: fee -1", x.fees(-1, 0));
        c.no("28: fee 100", x.fees(100, 0));
        c.no("28: jar -1", x.fees(0, -1));
        c.no("28: jar 100", x.fees(0, 100));
        x.judge(0, 5);
        Checks.schedule(x, 0, "marks grade;");
        Checks.schedule(x, 1, "marks grade;");
        for (int who = 1; who <= 4; who++) {
            x.entry(0, who, bit(4 * who), 0);
        }
        x.entry(1, 1, bit(5), 0);
        x.entry(1, 1, bit(6), 0);
        x.entry(1, 7, bit(28), 0);
        c.due("29: not judged", x.points(false, 4), 0);
        x.judged(0, 0);
        int[] due = {0, 0, 1, 2, 3};
        for (int who = 0; who <= 4; who++) {
            c.due("29: 3, 2, 1 at first, exhibitor " + who, x.points(false, who), due[who]);
        }
        x.judged(1, 0);
        c.due("29: both who have the place", x.points(false, 1), 4);
        c.due("29: the first", x.points(false, 7), 3);
        c.due("29: a house", x.points(true, 1), 7);
        c.due("29: a house without points", x.points(true, 5), 0);
        c.due("29: house 6", x.points(true, 6), NONE);
        c.due("29: house -1", x.points(true, -1), NONE);
        c.due("29: exhibitor 10", x.points(false, 10), NONE);
        c.due("29: exhibitor -1", x.points(false, -1), NONE);
        c.due("29: not told", new VillageShow().points(false, 0), NONE);
        c.yes("27: points", x.prize(2, 99, 999));
        c.due("29: as told", x.points(false, 1), 198);
        c.yes("27: no points", x.prize(1, 0, 0));
        c.due("29: none for the first", x.points(false, 7), 0);
        x.judge(0, 1);
        c.due("29: kin now, but judged", x.points(false, 1), 198);
    }

    private static void cup() {
        VillageShow x = village();
        x.judge(0, 5);
        for (int kind = 0; kind < 5; kind++) {
            Checks.schedule(x, kind, "marks grade;");
            x.judged(kind, 0);
        }
        c.due("30: nobody", x.cup(), 0);
        x.entry(0, 1, bit(4), 0);
        c.due("30: exhibitor 1", x.cup(), 1 << 1);
        x.entry(1, 2, bit(8), 0);
        c.due("30: 1 and 2", x.cup(), 1 << 1 | 1 << 2);
        x.exhibitor(2, 2, 12, true);
        c.due("30: 2 won last year", x.cup(), 1 << 1);
        x.exhibitor(2, 2, 12, false);
        x.prize(2, 3, 0);
        x.entry(1, 3, bit(12), 0);
        c.due("30: 1 with a first, 2 with a second, 3 with a first", x.cup(), 1 << 1 | 1 << 3);
        x.prize(1, 0, 0);
        c.due("30: only seconds have points", x.cup(), 1 << 2);
        x.prize(2, 0, 0);
        c.due("30: none has points", x.cup(), 0);
        x.prize(2, 1, 0);
        c.due("30: a point is enough", x.cup(), 1 << 2);
        x.prize(1, 2, 0);
        x.entry(2, 4, bit(16), 0);
        x.entry(3, 4, bit(17), 0);
        c.due("30: two firsts", x.cup(), 1 << 4);
        x.judged(3, NONE);
        c.due("30: one is not judged now", x.cup(), 1 << 1 | 1 << 3 | 1 << 4);
        x.entry(4, 0, bit(0), 0);
        c.due("30: exhibitor 0, too", x.cup(), 1 | 1 << 1 | 1 << 3 | 1 << 4);
        c.due("29: exhibitor 0", x.points(false, 0), 2);
        c.due("29: house 0", x.points(true, 0), 2);
    }

    private static void can() {
        VillageShow x = village();
        x.judge(0, 5);
        for (int kind = 0; kind < 5; kind++) {
            Checks.schedule(x, kind, "marks grade;bar 1 when size=13;");
        }
        c.due("31: nothing is open", x.can(0), 0);
        x.entry(0, 0, bit(0), 0);
        x.entry(0, 1, bit(4), 0);
        c.due("31: in any order", x.can(0), 1);
        c.due("31: in any order", x.can(1), 1);
        c.due("31: no entry", x.can(2), 0);
        x.exhibitor(0, 0, 10, true);
        c.due("31: won last year", x.can(0), 0);
        x.exhibitor(0, 0, 10, false);
        x.entry(1, 1, bit(5), 0);
        c.due("31: 3 against 5", x.can(0), 0);
        x.entry(1, 0, bit(1), 0);
        c.due("31: two classes", x.can(0), 1);
        x.judged(1, 0);
        c.due("31: 2 and 3 against 3 and 2: alike, a first each", x.can(0), 1);
        x.prize(1, 4, 0);
        c.due("31: 2 and 4 against 4 and 2", x.can(0), 1);
        x.entry(2, 1, bit(6), 0);
        c.due("31: one more for the other", x.can(0), 0);
        c.due("31: the other one can", x.can(1), 1);
        x.strike(4);
        x.entry(2, 1, bit(7), 0);
        c.due("31: one that is out is none", x.can(0), 1);
        x.exhibitor(1, 1, 11, true);
        c.due("31: the other one is no rival", x.can(0), 1);
        c.due("31: -1", x.can(-1), NONE);
        c.due("31: 10", x.can(10), NONE);
        c.due("31: not told", new VillageShow().can(0), NONE);
        x.prize(1, 0, 0);
        x.prize(2, 0, 0);
        x.prize(3, 0, 0);
        c.due("31: no points at all", x.can(0), 0);

        VillageShow y = village();
        y.judge(0, 5);
        Checks.schedule(y, 0, "");
        y.entry(0, 0, bit(0), 0);
        y.entry(0, 1, bit(4), 0);
        y.prize(1, 0, 0);
        y.prize(2, 5, 0);
        c.due("31: the second place is the better one", y.can(0), 1);
        Checks.schedule(y, 1, "");
        y.entry(1, 0, bit(1), 0);
        y.entry(1, 1, bit(5), 0);
        y.judged(1, 0);
        c.due("31: alike there, in no order here", y.can(0), 1);

        VillageShow z = village();
        z.judge(0, 5);
        z.prize(1, 3, 0);
        z.prize(2, 3, 0);
        for (int kind = 0; kind < 3; kind++) {
            Checks.schedule(z, kind, "marks grade;");
        }
        z.entry(0, 1, bit(4), 0);
        z.entry(0, 2, bit(8), 0);
        z.judged(0, 0);
        c.due("31: as many points, but a first less", z.can(1), 0);
        c.due("31: a first more", z.can(2), 1);
        z.entry(1, 1, bit(5), 0);
        z.entry(1, 2, bit(9), 0);
        c.due("31: the firsts can be alike", z.can(1), 1);
        z.entry(2, 2, bit(10), 0);
        z.entry(2, 1, bit(6), 0);
        c.due("31: or more", z.can(1), 1);
        z.judged(2, 0);
        c.due("31: not any more", z.can(1), 0);
        z.prize(1, 1, 0);
        z.prize(2, 0, 0);
        z.judged(1, 0);
        z.judged(2, NONE);
        z.judged(0, NONE);
        z.strike(0);
        z.strike(2);
        z.strike(3);
        c.due("31: a point is enough", z.can(1), 1);
    }

    private static void canLimits() {
        VillageShow x = village();
        x.judge(0, 5);
        for (int kind = 0; kind < 4; kind++) {
            Checks.schedule(x, kind, "bar 1 when size=13;");
        }
        for (int i = 0; i < 5; i++) {
            x.entry(0, i, bit(4 * i), 0);
        }
        c.due("31: five", x.can(0), 1);
        x.entry(0, 6, bit(27), 0);
        c.due("31: a sixth that is out", x.can(0), 1);
        x.entry(0, 6, bit(24), 0);
        c.due("31: six", x.can(0), NONE);
        x.exhibitor(9, 0, 1, true);
        c.due("31: six, for one who won, too", x.can(9), NONE);
        x.judged(0, 0);
        c.due("31: judged", x.can(0), 1);
        x.judged(0, NONE);
        x.strike(6);
        for (int kind = 1; kind < 3; kind++) {
            for (int i = 0; i < 5; i++) {
                x.entry(kind, i, bit(4 * i + kind), 0);
            }
        }
        c.due("31: three classes of five", x.can(4), 1);
        c.due("31: three classes of five", x.can(6), 0);
        x.entry(3, 7, bit(31), 0);
        c.due("31: a fourth with one that is out", x.can(4), 1);
        x.entry(3, 7, bit(28), 0);
        c.due("31: four classes", x.can(4), NONE);
        x.judged(2, 0);
        c.due("31: three", x.can(4), 1);
    }

    private static void protest() {
        VillageShow x = village();
        x.judge(0, 5);
        Checks.schedule(x, 0, "marks grade;bar 2 when 1<entries;");
        Checks.schedule(x, 1, "marks grade;");
        x.entry(0, 1, bit(4), 0);
        x.entry(0, 2, bit(8), 0);
        x.entry(0, 3, bit(12), 0);
        x.entry(0, 4, bit(16), 0);
        x.entry(0, 4, bit(17), 0);
        x.entry(1, 1, bit(5), 0);
        x.entry(1, 2, bit(9), 0);
        c.due("32: not judged", x.protest(2, 0), 0);
        x.judged(0, 0);
        c.due("32: two behind it", x.protest(2, 0), 2);
        c.due("32: none behind it", x.protest(0, 0), 0);
        c.due("32: the other of 4 comes in, all others go back", x.protest(3, 0), 4);
        c.due("32: the cup then", x.protest(3, 1), 1 << 4);
        c.due("32: the cup then", x.protest(2, 1), 1 << 2);
        c.due("32: the cup is as it was", x.cup(), 1 << 3);
        c.due("32: all stand", x.count(4), 7);
        c.due("32: in a class that is not judged", x.protest(6, 0), 0);
        c.due("32: the cup then", x.protest(6, 1), 1 << 3);
        c.due("32: another what", x.protest(0, 2), NONE);
        c.due("32: what -1", x.protest(0, -1), NONE);
        c.due("32: none such", x.protest(7, 0), NONE);
        c.due("32: none such", x.protest(-1, 0), NONE);
        x.strike(2);
        c.due("32: it does not stand", x.protest(2, 0), NONE);
        c.due("32: it does not stand", x.protest(2, 1), NONE);
    }

    private static void money() {
        VillageShow x = village();
        x.judge(0, 5);
        Checks.schedule(x, 0, "marks grade;");
        x.entry(0, 1, bit(4), 5);
        x.entry(0, 2, bit(8), 0);
        x.entry(0, 1, bit(5), 5);
        c.refused("33: -1", () -> x.money(-1));
        c.refused("33: 10", () -> x.money(10));
        c.refused("33: not told", () -> new VillageShow().money(0));
        c.due("33: none", x.money(1), 0);
        x.prize(1, 0, 999);
        x.prize(2, 0, 40);
        c.due("33: not judged", x.money(2), 0);
        x.judged(0, 0);
        c.due("33: the first", x.money(2), 999);
        c.due("33: two seconds", x.money(1), 80);
        c.yes("28: no fees", x.fees(0, 0));
        c.due("33: nothing to pay", x.money(2), 999);
        c.yes("28: fees", x.fees(7, 3));
        c.due("33: less the fee", x.money(2), 992);
        x.lost(0, 4);
        c.due("33: less fees and jars", x.money(1), 80 - 14 - 12);
        x.strike(0);
        c.due("33: a struck one pays, too", x.money(1), 40 - 14 - 12);
        c.due("33: no entry", x.money(0), 0);
        c.yes("28: the most", x.fees(99, 99));
        c.due("33: below 0", x.money(1), 40 - 198 - 396);
    }

    private static void sets() {
        VillageShow x = new VillageShow();
        x.exhibitor(0, 0, 20, false);
        x.exhibitor(1, 1, 20, false);
        x.piece(3, 0, 1, 10, 5);
        x.piece(10, 0, 1, 10, 5);
        x.piece(20, 0, 2, 30, 6);
        x.piece(39, 0, 2, 40, 9);
        x.piece(0, 1, 2, 40, 9);
        Checks.schedule(x, 0, "want 1 kind 1;marks grade*10;");
        Checks.schedule(x, 7, "marks grade*10-size*2;bar 1 when 3<pieces;");
        c.due("34: marks together", x.sets(0, 0, 7, 0), 50 + 40);
        c.due("34: the least bits of two alike", x.sets(0, 0, 7, 1), bit(3));
        c.due("34: without the piece that adds nothing", x.sets(0, 0, 7, 2), bit(10) | bit(39));
        c.due("34: the other way round", x.sets(0, 7, 0, 0), 90);
        c.due("34: the first class has the least", x.sets(0, 7, 0, 1), bit(3) | bit(39));
        c.due("34: the second one", x.sets(0, 7, 0, 2), bit(10));
        Checks.schedule(x, 1, "marks 0-grade;");
        Checks.schedule(x, 2, "");
        c.due("34: none is better", x.sets(0, 1, 2, 0), 0);
        c.due("34: none", x.sets(0, 1, 2, 1), 0);
        c.due("34: none", x.sets(0, 1, 2, 2), 0);
        Checks.schedule(x, 1, "marks entries*100+pieces;");
        c.due("34: entries count it", x.sets(0, 1, 2, 0), 104);
        x.entry(1, 0, bit(3), 0);
        c.due("34: entries count the one there, too", x.sets(0, 1, 2, 0), 203);
        x.judge(0, 5);
        x.lean(0, 0, 9);
        c.due("34: without a lean", x.sets(0, 1, 2, 0), 203);
        Checks.book(x, "bar 1 when 1<entries;");
        c.due("34: barred by the book", x.sets(0, 1, 2, 0), 0);
        x.strike(0);
        c.due("34: struck", x.sets(0, 1, 2, 0), 104);
        Checks.schedule(x, 1, "marks 0-9999*9999*21;");
        Checks.schedule(x, 2, "marks 9999*9999*21;");
        Checks.schedule(x, 3, "marks 9999*9999*21;");
        c.due("34: great marks", x.sets(0, 1, 2, 0), 2099580021L);
        c.due("34: together beyond an int", x.sets(0, 2, 3, 0), 2 * 2099580021L);
        c.refused("34: not told", () -> x.sets(0, 0, 4, 0));
        c.refused("34: not told", () -> x.sets(0, 4, 0, 0));
        c.refused("34: class -1", () -> x.sets(0, -1, 0, 0));
        c.refused("34: class 10", () -> x.sets(0, 0, 10, 0));
        c.refused("34: the same", () -> x.sets(0, 0, 0, 0));
        c.refused("34: what 3", () -> x.sets(0, 0, 1, 3));
        c.refused("34: what -1", () -> x.sets(0, 0, 1, -1));
        c.refused("34: exhibitor not told", () -> x.sets(2, 0, 1, 0));
        c.refused("34: exhibitor 10", () -> x.sets(10, 0, 1, 0));
        c.refused("34: exhibitor -1", () -> x.sets(-1, 0, 1, 0));
    }

    private static void setsLimits() {
        VillageShow x = new VillageShow();
        x.exhibitor(0, 0, 20, false);
        Checks.schedule(x, 0, "marks pieces;");
        Checks.schedule(x, 1, "marks pieces*2;");
        c.due("34: no pieces", x.sets(0, 0, 1, 0), 0);
        for (int i = 0; i < 10; i++) {
            x.piece(2 * i, 0, 0, 1, 1);
        }
        c.due("34: eight are the most of an entry", x.sets(0, 0, 1, 0), 18);
        c.due("34: two for the first", x.sets(0, 0, 1, 1), 0b101);
        c.due("34: eight for the second", x.sets(0, 0, 1, 2), 0b1010101010101010000);
        x.piece(39, 0, 0, 1, 1);
        c.refused("34: eleven", () -> x.sets(0, 0, 1, 0));
        x.entry(0, 0, bit(39), 0);
        c.due("34: ten are free", x.sets(0, 0, 1, 0), 18);
        x.strike(0);
        c.refused("34: eleven again", () -> x.sets(0, 0, 1, 2));
    }

    private static void years() {
        VillageShow x = new VillageShow();
        c.yes("35: not told, but it has years", x.year(0, 0, 0));
        c.yes("35: the last ones", x.year(9, 4, 99));
        c.no("35: class -1", x.year(-1, 0, 1));
        c.no("35: class 10", x.year(10, 0, 1));
        c.no("35: year -1", x.year(0, -1, 1));
        c.no("35: year 5", x.year(0, 5, 1));
        c.no("35: -2", x.year(0, 0, -2));
        c.no("35: 100", x.year(0, 0, 100));
        c.yes("35: not told any more", x.year(9, 4, NONE));
        c.yes("35: also if it was not", x.year(9, 3, NONE));
        c.no("35: class 10, none", x.year(10, 3, NONE));
    }

    private static void holds(VillageShow x, int kind, String e, boolean due) {
        c.due("36: plan " + e, Checks.plan(x, "drop when " + e + ";"), 0);
        c.due("36: " + e, x.planned(kind, 0), due ? 1 : 0);
    }

    private static void planned() {
        VillageShow x = village();
        c.due("36: not told", x.planned(0, 0), NONE);
        c.due("36: class -1", x.planned(-1, 0), NONE);
        c.due("36: class 10", x.planned(10, 0), NONE);
        for (int kind = 0; kind < 8; kind++) {
            Checks.schedule(x, kind, kind % 2 == 0 ? "" : "want " + kind + " kind " + (kind < 4 ? 3 : 5) + ";");
        }
        c.due("36: no plan", x.planned(0, 0), 0);
        c.due("36: no plan", x.planned(0, 1), NONE);
        c.due("36: another what", x.planned(0, 2), NONE);
        c.due("36: what -1", x.planned(0, -1), NONE);
        holds(x, 0, "now=0 and last=0 and most=0 and least=0 and mean=0 and years=0 and kind=10 and wanted=0", true);
        x.year(1, 1, 7);
        x.year(1, 3, 2);
        x.year(1, 4, 5);
        x.entry(1, 0, 1, 0);
        x.entry(1, 0, 2, 0);
        x.strike(0);
        holds(x, 1, "now=1", true);
        holds(x, 1, "last=0", true);
        holds(x, 1, "most=7", true);
        holds(x, 1, "least=2", true);
        holds(x, 1, "mean=4", true);
        holds(x, 1, "years=3", true);
        holds(x, 1, "kind=3", true);
        holds(x, 1, "wanted=1", true);
        x.year(1, 0, 9);
        holds(x, 1, "last=9 and most=9 and mean=5 and years=4", true);
        x.year(1, 0, NONE);
        holds(x, 1, "last=0 and most=7 and years=3", true);
        x.year(1, 0, 0);
        holds(x, 1, "least=0 and years=4 and mean=3", true);
        x.year(2, 0, 88);
        holds(x, 1, "least=0 and years=4 and mean=3 and most=7", true);
        holds(x, 1, "0", false);
        Checks.plan(x, "join when 1;split when wanted=3;drop when wanted=1;");
        c.due("36: dropped", x.planned(1, 0), 1);
        c.due("36: split", x.planned(3, 0), 2);
        c.due("36: joined", x.planned(0, 0), 3);
        int[] with = {2, NONE, 0, NONE, 6, 7, 4, 5};
        for (int kind = 0; kind < 8; kind++) {
            c.due("36: class " + kind + " is joined with", x.planned(kind, 1), with[kind]);
        }
        Checks.plan(x, "drop when 1;split when 1;join when 1;");
        c.due("36: drop comes first", x.planned(0, 0), 1);
        Checks.plan(x, "join when 1;split when 1;");
        c.due("36: then split", x.planned(0, 0), 2);
        Checks.plan(x, "join when wanted=0 and not(now=1);");
        x.entry(2, 1, bit(4), 0);
        c.due("36: the first with the second that is joined", x.planned(0, 1), 4);
        c.due("36: not joined", x.planned(2, 1), NONE);
        c.due("36: left over", x.planned(6, 1), NONE);
    }

    private static void mark() {
        VillageShow x = village();
        x.judge(0, 5);
        Checks.schedule(x, 0, "marks grade;");
        c.no("37: -1", x.mark(-1, false));
        c.no("37: 4", x.mark(4, false));
        c.no("37: -1", x.mark(-1, true));
        c.no("37: 4", x.mark(4, true));
        c.no("37: nothing is on it", x.mark(3, true));
        x.entry(0, 1, bit(4), 3);
        x.entry(0, 2, bit(8), 3);
        x.lost(0, 1);
        c.yes("37: laid", x.mark(3, false));
        x.strike(0);
        x.entry(0, 3, bit(12), 3);
        x.entry(0, 1, bit(4), 2);
        x.lost(0, 3);
        x.lost(2, 2);
        x.judged(0, 0);
        Checks.schedule(x, 1, "");
        x.exhibitor(1, 1, 99, false);
        c.yes("37: another one", x.mark(1, false));
        c.yes("37: back", x.mark(3, true));
        c.due("37: entries", x.count(3), 2);
        c.due("37: that stand", x.count(4), 2);
        c.due("37: jars lost", x.count(10), 1);
        c.due("37: judged", x.count(6), 0);
        c.due("37: classes are not held", x.count(2), 2);
        c.due("37: nor exhibitors", x.fact(0, 7), 99);
        c.no("37: laid behind it", x.mark(1, true));
        x.judged(0, 0);
        c.yes("37: back once more", x.mark(3, true));
        c.due("37: not judged", x.count(6), 0);
        c.due("37: the piece is free", x.entry(0, 3, bit(12), 3), 2);
        c.due("37: jars of the new one", x.count(10), 1);
        c.yes("37: laid before", x.mark(0, false));
        c.yes("37: laid anew, behind the other", x.mark(3, false));
        c.yes("37: back", x.mark(0, true));
        c.no("37: it is gone", x.mark(3, true));
        c.yes("37: laid", x.mark(2, false));
        c.yes("37: the one before stays", x.mark(2, true) && x.mark(0, true));
        x.judged(0, 0);
        c.yes("37: laid, judged", x.mark(1, false));
        x.judged(0, NONE);
        c.yes("37: back", x.mark(1, true));
        c.due("37: judged again", x.place(2, NONE), 1);
        c.yes("37: a smaller one laid behind", x.mark(0, false) && x.mark(1, true));
        c.no("37: is gone, too", x.mark(0, true));
    }

    private static void count() {
        VillageShow x = village();
        c.due("38: exhibitors", x.count(0), 10);
        c.due("38: pieces", x.count(1), 40);
        Checks.schedule(x, 0, "bar 3 when age=11;");
        Checks.schedule(x, 5, "");
        c.due("38: classes", x.count(2), 2);
        x.entry(0, 0, 1, 4);
        x.entry(0, 1, bit(4), 0);
        x.entry(0, 1, bit(5), 0);
        x.strike(2);
        x.lost(0, 2);
        x.entry(0, 2, bit(8), 0);
        c.due("38: entries", x.count(3), 4);
        c.due("38: that stand", x.count(4), 3);
        c.due("38: out of these", x.count(5), 1);
        x.judge(2, 4);
        x.judged(5, 2);
        c.due("38: classes judged", x.count(6), 1);
        x.judged(0, 2);
        c.due("38: two classes judged", x.count(6), 2);
        c.due("38: judges", x.count(7), 1);
        Checks.book(x, "bar 1 when 0;");
        c.due("38: bars", x.count(8), 1);
        Checks.feed(x, "abc");
        c.due("38: signs", x.count(9), 3);
        c.due("38: jars", x.count(10), 2);
        for (int what : new int[] {-1, 11, LOW, HIGH}) {
            c.due("38: what " + what, x.count(what), NONE);
        }
    }
}
