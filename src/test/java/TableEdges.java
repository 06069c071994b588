import java.util.Arrays;
import java.util.Random;

/** The edges of tables, moves and rounds: promises 21 to 26. */
final class TableEdges {
    private static final int NONE = VillageShow.NONE;

    private TableEdges() {
    }

    static void run(Edges e) {
        table(e);
        tableRefused(e);
        lay(e);
        layRefused(e);
        taken(e);
        guessed(e);
        takenRefused(e);
        full(e);
        fewest(e);
        firstWay(e);
        noWay(e);
        manyMoves(e);
        movesRefused(e);
        cap(e);
        roundHas(e);
        walks(e);
        farthest(e);
        firstRound(e);
        anyRound(e);
        noRound(e);
        roundRefused(e);
    }

    /** Class k is told and takes so many feet when guessed, as many entries of one foot each. */
    private static VillageShow hall(int[] feet, int[] homes, int[] takes) {
        VillageShow x = new VillageShow();
        for (int table = 0; table < 3; table++) {
            x.table(table, feet[table]);
        }
        for (int kind = 0; kind < homes.length; kind++) {
            Checks.schedule(x, kind, "");
            x.lay(kind, homes[kind], 1);
            x.year(kind, kind % 5, takes[kind]);
        }
        return x;
    }

    private static int[] all(int many, int n) {
        int[] row = new int[many];
        Arrays.fill(row, n);
        return row;
    }

    private static void moved(Edges e, String what, VillageShow x, int moves, int... tables) {
        e.due(what + ", moves", x.moves(true, 0), moves);
        for (int kind = 0; kind < 10; kind++) {
            e.due(what + ", class " + kind, x.moves(true, 1 + kind), kind < tables.length ? tables[kind] : NONE);
        }
    }

    // ---- 21 and 22

    private static void table(Edges e) {
        e.at(21, "TABLES 0 to 2: FEET (0 to 99; 0 at first).");
        for (int table = 0; table < 3; table++) {
            VillageShow x = hall(new int[3], new int[] {table}, new int[] {1});
            e.due("0 at first, or 0 told", x.moves(true, 0), NONE);
            for (int feet = 0; feet <= 99; feet++) {
                e.yes("table " + table + ", feet " + feet, x.table(table, feet));
                x.year(0, 0, feet);
                e.due("hold as many", x.moves(true, 0), 0);
                if (feet < 99) {
                    x.year(0, 0, feet + 1);
                    e.due("and not one more", x.moves(true, 0), NONE);
                    x.year(0, 0, 0);
                }
            }
            x.lay(0, table, 2);
            x.year(0, 0, 50);
            e.due("99 do not hold 100", x.moves(true, 0), NONE);
            e.yes("fewer, in place of it", x.table(table, 0));
            x.lay(0, table, 1);
            x.year(0, 0, 1);
            e.due("hold none", x.moves(true, 0), NONE);
        }
        VillageShow y = new VillageShow();
        Checks.schedule(y, 0, "");
        y.year(0, 0, 1);
        e.due("a new object has 0 feet", y.moves(true, 0), NONE);
        y.year(0, 0, 0);
        e.due("which hold nothing", y.moves(true, 0), 0);
    }

    private static void tableRefused(Edges e) {
        e.at(21, "FEET of a TABLE: true; false: others.");
        for (int table : Edges.outside(0, 2)) {
            e.declines("table " + table, x -> x.table(table, 5));
        }
        for (int feet : Edges.outside(0, 99)) {
            for (int table = 0; table < 3; table++) {
                int its = table;
                e.declines("feet " + feet + " of " + table, x -> x.table(its, feet));
            }
        }
    }

    private static void lay(Edges e) {
        e.at(22, "A CLASS lies on a TABLE (0 at first) and takes FOOT (0 to 9; 1 at first) for each ENTRY that STANDS;");
        for (int kind = 0; kind < 10; kind++) {
            VillageShow x = new VillageShow();
            Checks.schedule(x, kind, "");
            x.year(kind, 0, 7);
            e.due("table 0, a foot each", x.taken(0, true), 7);
            for (int table = 0; table < 3; table++) {
                for (int foot = 0; foot <= 9; foot++) {
                    e.yes("class " + kind + " on " + table + " with " + foot, x.lay(kind, table, foot));
                    for (int other = 0; other < 3; other++) {
                        e.due("table " + other, x.taken(other, true), other == table ? 7 * foot : 0);
                    }
                }
            }
            Checks.schedule(x, kind, "marks 1;");
            e.due("told anew, it lies as it lay", x.taken(2, true), 63);
        }
    }

    private static void layRefused(Edges e) {
        e.at(22, "A CLASS lies on a TABLE, with FOOT for an ENTRY: true; false: others, not told.");
        for (int kind : new int[] {-1, 1, 8, 10, Edges.LOW, Edges.HIGH}) {
            e.declines("class " + kind, x -> x.lay(kind, 0, 1));
        }
        for (int table : Edges.outside(0, 2)) {
            e.declines("table " + table, x -> x.lay(0, table, 1));
        }
        for (int foot : Edges.outside(0, 9)) {
            e.declines("foot " + foot, x -> x.lay(0, 0, foot));
        }
    }

    // ---- 23

    private static void taken(Edges e) {
        e.at(23, "takes FOOT (0 to 9; 1 at first) for each ENTRY that STANDS");
        VillageShow x = new VillageShow();
        x.exhibitor(0, 0, 20, false);
        Checks.schedule(x, 9, "bar 1 when 1;");
        Checks.schedule(x, 0, "");
        e.due("no entry", x.taken(0, false), 0);
        x.lay(9, 2, 9);
        for (int piece = 0; piece < 40; piece++) {
            x.piece(piece, 0, 1, 1, 1);
            e.due("so many entries, all out", x.taken(2, false), 9 * piece);
            x.entry(9, 0, 1L << piece, 0);
        }
        e.due("40", x.taken(2, false), 360);
        for (int entry = 0; entry < 40; entry++) {
            x.strike(entry);
            e.due("so many are not struck", x.taken(2, false), 351 - 9 * entry);
        }
        e.due("none in class 0", x.taken(0, false), 0);
        e.at(23, "What the CLASSES of a TABLE take, guessed: as GUESSED; NONE: no such TABLE.");
        VillageShow y = hall(new int[3], new int[] {0, 0, 2, 1, 1, 1, 0, 2, 2, 0}, new int[] {1, 2, 4, 8, 16, 32, 64, 3, 5, 99});
        e.due("table 0", y.taken(0, true), 1 + 2 + 64 + 99);
        e.due("table 1", y.taken(1, true), 8 + 16 + 32);
        e.due("table 2", y.taken(2, true), 4 + 3 + 5);
        e.due("not guessed", y.taken(0, false), 0);
        for (int kind = 0; kind < 10; kind++) {
            y.lay(kind, 1, 9);
            y.year(kind, 3, 99);
        }
        e.due("the most that can be", y.taken(1, true), 8910);
        e.due("nothing is left", y.taken(0, true) + y.taken(2, true), 0);
    }

    private static void guessed(Edges e) {
        e.at(23, "GUESSED: for each of the most ENTRIES in YEARS told.");
        for (int most = 0; most < 5; most++) {
            VillageShow x = new VillageShow();
            Checks.schedule(x, 0, "");
            e.due("no year is told", x.taken(0, true), 0);
            for (int year = 0; year < 5; year++) {
                x.year(0, year, year == most ? 50 : 10 + year);
            }
            e.due("the most is in year " + most, x.taken(0, true), 50);
            x.year(0, most, 49);
            e.due("told anew", x.taken(0, true), 49);
            x.year(0, most, NONE);
            e.due("not told any more", x.taken(0, true), most == 4 ? 13 : 14);
        }
        VillageShow y = new VillageShow();
        y.year(0, 0, 9);
        y.year(1, 0, 5);
        e.due("no class is told", y.taken(0, true), 0);
        Checks.schedule(y, 1, "");
        e.due("one is", y.taken(0, true), 5);
        y.year(1, 0, 0);
        e.due("0 entries", y.taken(0, true), 0);
        Checks.schedule(y, 0, "");
        e.due("years told before the class count", y.taken(0, true), 9);
    }

    private static void takenRefused(Edges e) {
        e.at(23, "NONE: no such TABLE.");
        for (int table : Edges.outside(0, 2)) {
            e.none("table " + table, x -> x.taken(table, false));
            e.none("table " + table + " guessed", x -> x.taken(table, true));
        }
        int[] due = {2, 9, 6};
        int[] guess = {9, 0, 0};
        for (int table = 0; table < 3; table++) {
            int its = table;
            e.leaves("table " + table, due[table] - (table == 0 ? 1 : 0), x -> x.taken(its, false));
            e.leaves("table " + table + " guessed", guess[table], x -> x.taken(its, true));
        }
    }

    // ---- 24

    private static void full(Edges e) {
        e.at(24, "A TABLE is FULL if its CLASSES take more than its FEET.");
        int[] feet = {6, 7, 8};
        int[] homes = {0, 0, 1, 1, 2, 2};
        moved(e, "as much as its feet", hall(feet, homes, new int[] {3, 3, 3, 4, 4, 4}), 0, homes);
        moved(e, "one less each", hall(feet, homes, new int[] {3, 2, 3, 3, 4, 3}), 0, homes);
        moved(e, "one more in all", hall(feet, homes, new int[] {3, 4, 3, 4, 4, 4}), NONE, all(6, NONE));
        moved(e, "one more on table 0", hall(feet, homes, new int[] {3, 4, 3, 3, 4, 4}), 2, 0, 1, 0, 1, 2, 2);
        moved(e, "one more, and it fits elsewhere", hall(feet, homes, new int[] {3, 4, 3, 1, 4, 4}), 1, 1, 0, 1, 1, 2, 2);
        moved(e, "one more on table 2", hall(feet, homes, new int[] {1, 1, 3, 4, 4, 5}), 1, 0, 0, 1, 1, 0, 2);
        moved(e, "one more on table 1", hall(feet, homes, new int[] {1, 1, 3, 5, 4, 4}), 1, 0, 0, 0, 1, 2, 2);
        moved(e, "nothing on no feet", hall(new int[3], homes, all(6, 0)), 0, homes);
        moved(e, "one on no feet", hall(new int[3], homes, new int[] {0, 0, 0, 0, 0, 1}), NONE, all(6, NONE));
        moved(e, "99 on 99", hall(all(3, 99), new int[] {0, 1, 2}, all(3, 99)), 0, 0, 1, 2);
        moved(e, "1 on 99 beside 99", hall(all(3, 99), new int[] {0, 1, 2, 0}, new int[] {99, 99, 99, 1}), NONE,
            all(4, NONE));
    }

    private static void fewest(Edges e) {
        e.at(24, "MOVES: the fewest CLASSES told to be put on other TABLES so that none is FULL;");
        moved(e, "one great one rather than three small ones",
            hall(new int[] {3, 3, 0}, all(4, 0), new int[] {1, 1, 1, 3}), 1, 0, 0, 0, 1);
        moved(e, "one small one rather than the great one",
            hall(new int[] {5, 9, 9}, all(2, 0), new int[] {5, 1}), 1, 0, 1);
        moved(e, "two change places", hall(new int[] {1, 3, 0}, new int[] {0, 1}, new int[] {3, 1}), 2, 1, 0);
        moved(e, "three change places", hall(new int[] {1, 2, 3}, new int[] {0, 1, 2}, new int[] {2, 3, 1}), 3, 1, 2, 0);
        moved(e, "what takes nothing stays", hall(new int[] {0, 9, 9}, all(3, 0), new int[] {0, 9, 0}), 1, 0, 1, 0);
        moved(e, "it stays on the last table, too", hall(new int[] {9, 9, 0}, all(3, 2), new int[] {0, 9, 0}), 1, 2, 0, 2);
        moved(e, "one makes room for another", hall(new int[] {4, 2, 2}, new int[] {0, 1, 1}, new int[] {2, 2, 2}), 1,
            0, 0, 1);
        moved(e, "two moves, one makes room for the other",
            hall(new int[] {4, 3, 0}, new int[] {0, 0, 1}, new int[] {2, 3, 2}), 2, 0, 1, 0);
    }

    private static void firstWay(Edges e) {
        e.at(24, "of as many ways the first (CLASS 0 on the least TABLE, then CLASS 1, and so on).");
        int[] one = all(3, 1);
        moved(e, "class 0 stays on 0, class 1 goes to 1", hall(one, all(2, 0), all(2, 1)), 1, 0, 1);
        moved(e, "from table 1: class 0 goes to 0", hall(one, all(2, 1), all(2, 1)), 1, 0, 1);
        moved(e, "from table 2: class 0 goes to 0", hall(one, all(2, 2), all(2, 1)), 1, 0, 2);
        moved(e, "three on 0", hall(one, all(3, 0), all(3, 1)), 2, 0, 1, 2);
        moved(e, "three on 1", hall(one, all(3, 1), all(3, 1)), 2, 0, 1, 2);
        moved(e, "three on 2", hall(one, all(3, 2), all(3, 1)), 2, 0, 1, 2);
        moved(e, "the fewest before the first", hall(new int[] {9, 9, 1}, new int[] {1, 2, 2}, new int[] {5, 1, 1}), 1,
            1, 0, 2);
        moved(e, "table 0 has no room, table 1 has", hall(new int[] {0, 1, 1}, all(2, 2), all(2, 1)), 1, 1, 2);
        moved(e, "the later one has to go", hall(new int[] {2, 1, 0}, all(3, 0), new int[] {1, 1, 1}), 1, 0, 0, 1);
        moved(e, "the great one cannot go", hall(new int[] {2, 1, 0}, all(2, 0), new int[] {1, 2}), 1, 1, 0);
    }

    private static void noWay(Edges e) {
        e.at(24, "NONE: others, no way, not told.");
        moved(e, "too much in all", hall(all(3, 1), all(4, 0), all(4, 1)), NONE, all(4, NONE));
        moved(e, "there is room, but not in one piece", hall(all(3, 3), all(4, 0), all(4, 2)), NONE, all(4, NONE));
        moved(e, "one is too great", hall(all(3, 9), all(2, 0), new int[] {1, 10}), NONE, all(2, NONE));
        VillageShow x = hall(all(3, 0), all(1, 0), all(1, 1));
        e.due("no way guessed", x.moves(true, 1), NONE);
        e.due("but as it stands", x.moves(false, 1), 0);
        e.due("that is no move", x.moves(false, 0), 0);
        e.due("class 1 is not told", x.moves(false, 2), NONE);
        x.year(1, 0, 99);
        e.due("so it takes nothing", x.moves(false, 0), 0);
        x.year(0, 0, 0);
        e.due("nor guessed", x.moves(true, 0), 0);
    }

    private static void manyMoves(Edges e) {
        e.at(24, "MOVES (guessed: as GUESSED), what 0: how many, 1 + c: the TABLE of CLASS c then;");
        moved(e, "all ten", hall(new int[] {0, 5, 5}, all(10, 0), all(10, 1)), 10, 1, 1, 1, 1, 1, 2, 2, 2, 2, 2);
        moved(e, "nine of ten", hall(new int[] {1, 4, 5}, all(10, 0), all(10, 1)), 9, 0, 1, 1, 1, 1, 2, 2, 2, 2, 2);
        moved(e, "ten from table 2", hall(new int[] {5, 5, 0}, all(10, 2), all(10, 1)), 10, 0, 0, 0, 0, 0, 1, 1, 1, 1, 1);
        moved(e, "ten to table 2", hall(new int[] {0, 0, 10}, new int[] {0, 1, 0, 1, 0, 1, 0, 1, 0, 1}, all(10, 1)), 10,
            all(10, 2));
        moved(e, "none of ten", hall(new int[] {0, 0, 99}, all(10, 2), all(10, 9)), 0, all(10, 2));
        VillageShow x = Sample.show();
        e.due("as it stands", x.moves(false, 0), 0);
        x.table(0, 0);
        e.due("class 3 has to go", x.moves(false, 0), 1);
        e.due("to table 2, which has room for one", x.moves(false, 4), 2);
        e.due("class 0 stays", x.moves(false, 1), 2);
        e.due("guessed, it goes to table 1", x.moves(true, 4), 1);
        x.strike(2);
        e.due("no entry, no move", x.moves(false, 0), 0);
    }

    private static void movesRefused(Edges e) {
        e.at(24, "NONE: others, no way, not told.");
        for (int what : Edges.outside(0, 10)) {
            e.none("what " + what, x -> x.moves(false, what));
            e.none("what " + what + ", guessed", x -> x.moves(true, what));
        }
        int[] tables = {2, NONE, NONE, 0, NONE, NONE, NONE, NONE, NONE, 1};
        for (int kind = 0; kind < 10; kind++) {
            int its = kind;
            e.leaves("class " + kind, tables[kind], x -> x.moves(false, 1 + its));
        }
        e.leaves("how many", 0, x -> x.moves(false, 0));
        e.leaves("how many, guessed", 1, x -> x.moves(true, 0));
    }

    // ---- 25 and 26

    /** Judges as told by their houses; each class with an entry of one piece of each exhibitor that its row names. */
    private static VillageShow round(int[] judges, int[] tables, int[]... exhibitors) {
        VillageShow x = new VillageShow();
        int piece = 0;
        for (int who = 0; who < 6; who++) {
            x.exhibitor(who, who, 20, false);
        }
        for (int judge = 0; judge < judges.length; judge++) {
            x.judge(judge, judges[judge]);
        }
        for (int kind = 0; kind < tables.length; kind++) {
            Checks.schedule(x, kind, "bar 1 when won=0;");
            x.lay(kind, tables[kind], 1);
            for (int who : exhibitors[Math.min(kind, exhibitors.length - 1)]) {
                x.piece(piece, who, 1, 1, 1);
                x.entry(kind, who, 1L << piece, 0);
                piece++;
            }
        }
        return x;
    }

    private static void dealt(Edges e, String what, VillageShow x, int walks, int... judges) {
        e.due(what + ", walks", x.round(0), walks);
        for (int kind = 0; kind < 10; kind++) {
            e.due(what + ", class " + kind, x.round(1 + kind), kind < judges.length ? judges[kind] : NONE);
        }
    }

    private static void cap(Edges e) {
        e.at(25, "CAP (1 to 10; 4 at first) to each at most;");
        VillageShow x = round(new int[] {4, 4, 4, 4}, all(10, 0), new int[] {0});
        dealt(e, "4 at first", x, 0, 0, 0, 0, 0, 1, 1, 1, 1, 2, 2);
        for (int cap = 1; cap <= 10; cap++) {
            e.yes("cap " + cap, x.cap(cap));
            int[] due = new int[10];
            for (int kind = 0; kind < 10; kind++) {
                due[kind] = cap < 3 ? NONE : kind / cap;
            }
            dealt(e, "cap " + cap, x, cap < 3 ? NONE : 0, due);
        }
        for (int many = 1; many <= 10; many++) {
            VillageShow y = round(new int[] {4}, all(many, 0), new int[] {0});
            e.due(many + " classes, 4 at first", y.round(0), many <= 4 ? 0 : NONE);
            for (int cap = 1; cap <= 10; cap++) {
                y.cap(cap);
                e.due(many + " classes, cap " + cap, y.round(0), many <= cap ? 0 : NONE);
            }
        }
        e.at(25, "CAP: true; false: others.");
        for (int cap : Edges.outside(1, 10)) {
            e.declines("cap " + cap, y -> y.cap(cap));
        }
    }

    private static void roundHas(Edges e) {
        e.at(26, "ROUND: each CLASS told that has an ENTRY that STANDS is dealt to a JUDGE told who is not KIN,");
        VillageShow x = round(new int[] {4}, all(4, 0), new int[] {0}, new int[] {}, new int[] {1, 0}, new int[] {});
        dealt(e, "two have entries, all out", x, 0, 0, NONE, 0, NONE);
        x.strike(0);
        dealt(e, "one", x, 0, NONE, NONE, 0, NONE);
        x.strike(1);
        dealt(e, "still one", x, 0, NONE, NONE, 0, NONE);
        x.strike(2);
        dealt(e, "none", x, 0, NONE, NONE, NONE, NONE);
        VillageShow y = new VillageShow();
        dealt(e, "no class, no judge", y, 0);
        Checks.schedule(y, 9, "");
        dealt(e, "no entry, no judge", y, 0);
        y.exhibitor(0, 0, 1, false);
        y.piece(0, 0, 0, 1, 1);
        y.entry(9, 0, 1, 0);
        dealt(e, "no judge", y, NONE);
        y.judge(3, 0);
        dealt(e, "only one who is kin", y, NONE);
        y.judge(3, 1);
        dealt(e, "the last judge, the last class", y, 0, NONE, NONE, NONE, NONE, NONE, NONE, NONE, NONE, NONE, 3);
        y.judge(1, 1);
        e.due("a lesser one", y.round(10), 1);
        y.judge(1, 0);
        e.due("who is kin now", y.round(10), 3);
        y.judged(9, 3);
        y.judge(0, 5);
        e.due("by whom it is judged plays no part", y.round(10), 0);
    }

    private static void walks(Edges e) {
        e.at(26, "a JUDGE WALKS from the least of their TABLES to the greatest.");
        int[] judge = {4};
        int[] entry = {0};
        dealt(e, "one class on the last table", round(judge, new int[] {2}, entry), 0, 0);
        dealt(e, "two on one", round(judge, new int[] {1, 1}, entry), 0, 0, 0);
        dealt(e, "0 and 1", round(judge, new int[] {0, 1}, entry), 1, 0, 0);
        dealt(e, "2 and 1", round(judge, new int[] {2, 1}, entry), 1, 0, 0);
        dealt(e, "0 and 2", round(judge, new int[] {0, 2}, entry), 2, 0, 0);
        dealt(e, "2, 0 and 1", round(judge, new int[] {2, 0, 1}, entry), 2, 0, 0, 0);
        dealt(e, "0, 2, 0 and 2", round(judge, new int[] {0, 2, 0, 2}, entry), 2, 0, 0, 0, 0);
        VillageShow full = round(judge, new int[] {1, 1}, entry);
        full.table(0, 1);
        full.table(1, 1);
        e.due("a full table: one would have to be moved", full.moves(false, 0), 1);
        dealt(e, "as they lie, not as they could be moved", full, 0, 0, 0);
        e.at(26, "The way with the least WALKS together;");
        int[] two = {4, 4};
        dealt(e, "two judges, two tables", round(two, new int[] {0, 2}, entry), 0, 0, 1);
        dealt(e, "two judges, three tables", round(two, new int[] {0, 1, 2}, entry), 1, 0, 0, 1);
        dealt(e, "two judges, three tables, from the last", round(two, new int[] {2, 1, 0}, entry), 1, 0, 0, 1);
        dealt(e, "two judges, 0, 2, 1", round(two, new int[] {0, 2, 1}, entry), 1, 0, 1, 0);
        dealt(e, "three judges", round(new int[] {4, 4, 4}, new int[] {0, 1, 2, 0, 1, 2}, entry), 0, 0, 1, 2, 0, 1, 2);
        dealt(e, "one cannot take the near one", round(new int[] {4, 0}, new int[] {0, 2, 0, 2}, entry, new int[] {0},
            new int[] {1}, new int[] {1}), 2, 0, 0, 0, 0);
    }

    private static void farthest(Edges e) {
        e.at(26, "The way with the least WALKS together;");
        int[] tables = {0, 2, 0, 2, 0, 2, 0, 2};
        int[][] others = {{1, 2, 3}, {1, 2, 3}, {0, 2, 3}, {0, 2, 3}, {0, 1, 3}, {0, 1, 3}, {0, 1, 2}, {0, 1, 2}};
        int[] judges = {0, 1, 2, 3};
        dealt(e, "the most that can be", round(judges, tables, others), 8, 0, 0, 1, 1, 2, 2, 3, 3);
        VillageShow x = round(judges, tables, others);
        x.cap(2);
        e.due("two each", x.round(0), 8);
        x.cap(1);
        e.due("one each is too few", x.round(0), NONE);
        x.cap(10);
        x.lay(7, 1, 1);
        e.due("one less", x.round(0), 7);
        x.lay(7, 0, 1);
        dealt(e, "two less", x, 6, 0, 0, 1, 1, 2, 2, 3, 3);
        x.exhibitor(0, 5, 1, false);
        e.due("judge 0 is kin to none", x.round(0), 2);
        dealt(e, "and takes eight", x, 2, 0, 0, 0, 0, 0, 0, 0, 0);
        x.cap(7);
        dealt(e, "seven at most", x, 2, 0, 0, 0, 0, 0, 0, 0, 3);
    }

    private static void firstRound(Edges e) {
        e.at(26, "of equal ones the first (CLASS by CLASS, the least JUDGE).");
        int[] four = {4, 4, 4, 4};
        int[] entry = {0};
        dealt(e, "all to judge 0", round(four, all(4, 1), entry), 0, 0, 0, 0, 0);
        dealt(e, "the fifth to judge 1", round(four, all(5, 1), entry), 0, 0, 0, 0, 0, 1);
        dealt(e, "each table has its judge", round(four, new int[] {2, 0, 1, 0, 2, 2, 1}, entry), 0, 0, 1, 2, 1, 0, 0, 2);
        dealt(e, "one table has two", round(four, new int[] {0, 1, 0, 0, 0, 0, 2}, entry), 0, 0, 1, 0, 0, 0, 2, 3);
        dealt(e, "judge 0 is kin to class 0", round(new int[] {0, 4}, all(3, 0), entry, new int[] {1}, new int[] {1}), 0,
            1, 0, 0);
        VillageShow x = round(new int[] {4, 0}, all(3, 0), entry, new int[] {1}, new int[] {1});
        x.cap(2);
        dealt(e, "class 0 can only be judge 0's", x, 0, 0, 0, 1);
        VillageShow y = round(new int[] {4, 0}, all(3, 0), new int[] {1}, new int[] {0}, new int[] {0});
        y.cap(2);
        dealt(e, "classes 1 and 2 can only be judge 0's", y, 0, 1, 0, 0);
        VillageShow z = round(four, new int[] {0, 2, 0, 2, 0, 2, 0, 2, 1, 1}, entry);
        z.cap(3);
        dealt(e, "ten classes, three each", z, 1, 0, 1, 0, 1, 0, 1, 2, 3, 2, 2);
    }

    /** Six classes of one to three entries, dealt by trying all ways. */
    private static void anyRound(Edges e) {
        e.at(26, "of equal ones the first (CLASS by CLASS, the least JUDGE).");
        Random random = new Random(26);
        for (int run = 0; run < 120; run++) {
            int[] judges = new int[2 + random.nextInt(3)];
            for (int judge = 0; judge < judges.length; judge++) {
                judges[judge] = random.nextInt(6);
            }
            int[] tables = new int[6];
            int[][] exhibitors = new int[6][];
            for (int kind = 0; kind < 6; kind++) {
                tables[kind] = random.nextInt(3);
                exhibitors[kind] = new int[1 + random.nextInt(2)];
                for (int i = 0; i < exhibitors[kind].length; i++) {
                    exhibitors[kind][i] = random.nextInt(6);
                }
            }
            VillageShow x = round(judges, tables, exhibitors);
            int cap = 2 + random.nextInt(4);
            x.cap(cap);
            int best = NONE;
            int[] bestWay = all(6, NONE);
            for (int way = 0; way < 1 << 12; way++) {
                int walks = walksOf(way, judges, tables, exhibitors, cap);
                if (walks != NONE && (best == NONE || walks < best)) {
                    best = walks;
                    for (int kind = 0; kind < 6; kind++) {
                        bestWay[kind] = way >> 2 * (5 - kind) & 3;
                    }
                }
            }
            dealt(e, "run " + run, x, best, bestWay);
        }
    }

    private static int walksOf(int way, int[] judges, int[] tables, int[][] exhibitors, int cap) {
        int walks = 0;
        for (int judge = 0; judge < 4; judge++) {
            int load = 0;
            int low = 2;
            int high = 0;
            for (int kind = 0; kind < 6; kind++) {
                if ((way >> 2 * (5 - kind) & 3) != judge) {
                    continue;
                }
                load++;
                low = Math.min(low, tables[kind]);
                high = Math.max(high, tables[kind]);
                boolean kin = judge >= judges.length;
                for (int i = 0; i < exhibitors[kind].length && !kin; i++) {
                    kin = exhibitors[kind][i] == judges[judge];
                }
                if (kin || load > cap) {
                    return NONE;
                }
            }
            walks += load == 0 ? 0 : high - low;
        }
        return walks;
    }

    private static void noRound(Edges e) {
        e.at(26, "NONE: others, no way, no ENTRY in it.");
        int[] entry = {0};
        dealt(e, "every judge is kin to one of them", round(new int[] {0, 1}, all(3, 0), entry, new int[] {0, 1},
            new int[] {2}), NONE, NONE, NONE, NONE);
        dealt(e, "five classes for one judge", round(new int[] {4}, all(5, 0), entry), NONE, all(5, NONE));
        VillageShow x = round(new int[] {4, 0, 0, 0}, all(10, 0), entry);
        x.cap(9);
        dealt(e, "nine of ten", x, NONE, all(10, NONE));
        x.cap(10);
        dealt(e, "ten of ten", x, 0, all(10, 0));
        VillageShow y = round(new int[] {4, 4, 0, 0}, all(10, 0), entry);
        dealt(e, "eight of ten", y, NONE, all(10, NONE));
        y.cap(5);
        dealt(e, "five each", y, 0, 0, 0, 0, 0, 0, 1, 1, 1, 1, 1);
        VillageShow z = round(new int[] {4, 0}, all(2, 0), new int[] {0}, new int[] {0});
        z.cap(1);
        dealt(e, "two need the same one", z, NONE, NONE, NONE);
    }

    private static void roundRefused(Edges e) {
        e.at(26, "ROUND, what 0: WALKS together, 1 + c: the JUDGE of CLASS c; NONE: others, no way, no ENTRY in it.");
        for (int what : Edges.outside(0, 10)) {
            e.none("what " + what, x -> x.round(what));
        }
        int[] judges = {0, NONE, NONE, 1, NONE, NONE, NONE, NONE, NONE, 3};
        for (int kind = 0; kind < 10; kind++) {
            int its = kind;
            e.leaves("class " + kind, judges[kind], x -> x.round(1 + its));
        }
        e.leaves("walks", 0, x -> x.round(0));
    }
}
