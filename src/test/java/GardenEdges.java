/** The edges of sets, years, the plan, marks that are laid, and counts: promises 34 to 38. */
final class GardenEdges {
    private static final int NONE = VillageShow.NONE;

    private GardenEdges() {
    }

    static void run(Edges e) {
        setsPieces(e);
        setsNone(e);
        setsOut(e);
        setsEntries(e);
        setsLeast(e);
        setsEnds(e);
        setsRefused(e);
        years(e);
        yearRefused(e);
        planFacts(e);
        planYears(e);
        planNeighbours(e);
        planLines(e);
        planPairs(e);
        plannedRefused(e);
        markHolds(e);
        markLeaves(e);
        markEmpty(e);
        marksBehind(e);
        markFull(e);
        markRefused(e);
        counts(e);
        countsFull(e);
        countRefused(e);
    }

    private static long bit(int piece) {
        return 1L << piece;
    }

    /** Exhibitor 0 with so many pieces from the given one on, of kind 1, each of size 1 + its place and grade 1. */
    private static VillageShow garden(int many, int from) {
        VillageShow x = new VillageShow();
        x.exhibitor(0, 0, 20, false);
        for (int i = 0; i < many; i++) {
            x.piece(from + i, 0, 1, 1 + i, 1);
        }
        return x;
    }

    private static void best(Edges e, String what, VillageShow x, long marks, long first, long second) {
        e.due(what + ", marks", x.sets(0, 0, 1, 0), marks);
        e.due(what + ", the first set", x.sets(0, 0, 1, 1), first);
        e.due(what + ", the second set", x.sets(0, 0, 1, 2), second);
    }

    private static VillageShow with(VillageShow x, String first, String second) {
        Checks.schedule(x, 0, first);
        Checks.schedule(x, 1, second);
        return x;
    }

    // ---- 34

    private static void setsPieces(Edges e) {
        e.at(34, "SETS of an EXHIBITOR for two CLASSES told: of their PIECES that are in no ENTRY that STANDS (10 at most),"
            + " some for the one, others for the other one, or none:");
        for (int many = 0; many <= 10; many++) {
            for (int from : new int[] {0, 20, 40 - many}) {
                VillageShow x = with(garden(many, from), "marks pieces;", "marks 0;");
                int most = Math.min(many, 8);
                best(e, many + " from " + from, x, most, ((1L << most) - 1) << from, 0);
                with(x, "marks 0;", "marks pieces;");
                best(e, many + " from " + from + " for the second", x, most, 0, ((1L << most) - 1) << from);
            }
        }
        for (int many = 11; many <= 40; many++) {
            VillageShow x = with(garden(many, 0), "", "");
            e.refused(many + " pieces", () -> x.sets(0, 0, 1, 0));
            for (int piece = 10; piece < many; piece++) {
                e.refused("too many are free", () -> x.sets(0, 0, 1, 2));
                x.entry(0, 0, bit(piece), 0);
            }
            best(e, "10 are free of " + many, x, 0, 0, 0);
            x.strike(many - 11);
            e.refused("11 are free again", () -> x.sets(0, 0, 1, 1));
        }
        VillageShow y = with(garden(10, 0), "marks pieces;", "marks pieces;");
        y.exhibitor(1, 0, 20, false);
        y.piece(39, 1, 1, 1, 1);
        best(e, "another's pieces are not theirs", y, 10, 0b11, 0xff << 2);
        y.piece(9, 1, 1, 1, 1);
        best(e, "one has gone to another", y, 9, 0b1, 0xff << 1);
        e.due("who has two", y.sets(1, 0, 1, 0), 2);
        e.due("none for the first", y.sets(1, 0, 1, 1), 0);
        e.due("both for the second", y.sets(1, 0, 1, 2), bit(9) | bit(39));
    }

    private static void setsNone(Edges e) {
        e.at(34, "their MARKS (without a LEAN) together the most (0 for none);");
        best(e, "no pieces", with(garden(0, 0), "marks 5;", "marks 5;"), 0, 0, 0);
        best(e, "no marks", with(garden(3, 0), "", ""), 0, 0, 0);
        best(e, "marks of 0", with(garden(3, 0), "marks 0;", "tie 5;"), 0, 0, 0);
        best(e, "marks below 0", with(garden(3, 0), "marks 0-1;", "marks 0-9;"), 0, 0, 0);
        best(e, "below 0 and above", with(garden(3, 0), "marks 0-1;", "marks 1;"), 1, 0, 0b1);
        best(e, "above and below 0", with(garden(3, 0), "marks 1;", "marks 0-1;"), 1, 0b1, 0);
        best(e, "one piece for two classes", with(garden(1, 0), "marks 3;", "marks 4;"), 4, 0, 0b1);
        best(e, "one piece for two classes alike", with(garden(1, 0), "marks 3;", "marks 3;"), 3, 0, 0b1);
        best(e, "all below 0 but all three", with(garden(3, 0), "marks 5*(pieces=3)-1;", ""), 4, 0b111, 0);
        VillageShow x = with(garden(1, 0), "marks 3;", "marks 4;");
        x.judge(0, 5);
        x.lean(0, 0, 9);
        x.judged(0, 0);
        best(e, "without a lean", x, 4, 0, 0b1);
    }

    private static void setsOut(Edges e) {
        e.at(34, "as ENTRIES more, neither OUT");
        for (int want = 1; want <= 8; want++) {
            VillageShow x = with(garden(10, 0), "want " + want + " kind 1;marks 1;", "want " + want + " kind 2;marks 9;");
            best(e, "so many as wanted", x, 1, (1L << want) - 1, 0);
            for (int piece = 9; piece > 9 - want; piece--) {
                boolean enough = piece + 1 >= want;
                best(e, "too few of kind 2", x, enough ? 1 : 0, enough ? (1L << want) - 1 : 0, 0);
                x.piece(piece, 0, 2, 1, 1);
            }
            boolean both = 2 * want <= 10;
            best(e, "of kind 2", x, both ? 10 : 9, both ? (1L << want) - 1 : 0, ((1L << want) - 1) << 10 - want);
        }
        VillageShow x = with(garden(3, 0), "marks size;bar 1 when 1<pieces;", "marks 1;");
        best(e, "barred by the class", x, 4, 0b100, 0b1);
        Checks.book(x, "bar 2 when size=3;");
        best(e, "barred by the book", x, 3, 0b10, 0b1);
        Checks.book(x, "bar 0 when 1;");
        best(e, "all are barred, by word 0", x, 0, 0, 0);
        Checks.book(x, "bar 0 when pieces<3;");
        best(e, "three are barred in one, two in the other", x, 1, 0, 0b111);
        x.piece(0, 0, 1, 99, 9);
        x.book();
        best(e, "a great one", x, 100, 0b1, 0b10);
        with(x, "want 2 kind 1;marks size;", "want 2 kind 1;marks size;");
        best(e, "pieces for one alone", x, 102, 0, 0b101);
    }

    private static void setsEntries(Edges e) {
        e.at(34, "(entries counts it, too)");
        VillageShow x = with(garden(4, 0), "marks entries;", "marks 10*entries;");
        best(e, "one each", x, 11, 0b1, 0b10);
        x.entry(0, 0, 0b1, 0);
        best(e, "a second for the first class", x, 12, 0b10, 0b100);
        x.entry(1, 0, 0b10, 0);
        best(e, "a second for both", x, 22, 0b100, 0b1000);
        x.strike(0);
        best(e, "one is struck", x, 21, 0b1, 0b100);
        Checks.book(x, "bar 1 when entries=2;");
        best(e, "a second is barred", x, 1, 0b1, 0);
        Checks.book(x, "bar 1 when entries<2;");
        best(e, "a first is barred", x, 20, 0, 0b1);
        VillageShow y = garden(40, 0);
        with(y, "marks entries;", "marks entries;");
        for (int entry = 0; entry < 39; entry++) {
            y.entry(entry % 2, 0, bit(entry), 0);
        }
        best(e, "39 entries, one piece is free", y, 21, bit(39), 0);
    }

    private static void setsLeast(Edges e) {
        e.at(34, "of equal ones the least as bits of PIECES for the first CLASS, then for the second one.");
        best(e, "one each", with(garden(3, 5), "marks 1;", "marks 1;"), 2, bit(5), bit(6));
        best(e, "two each", with(garden(5, 0), "want 2 kind 1;marks 1;", "want 2 kind 1;marks 1;"), 2, 0b11, 0b1100);
        best(e, "the first has none rather than one", with(garden(2, 0), "marks pieces;", "marks pieces;"), 2, 0, 0b11);
        best(e, "the first has one rather than the third",
            with(garden(3, 0), "want 1 kind 1;marks 1;", "want 2 kind 1;marks 1;"), 2, 0b1, 0b110);
        best(e, "the last as bits, not the most pieces", with(garden(10, 30), "marks 2<pieces;", "marks 2<pieces;"), 2,
            0b111L << 30, 0b111L << 33);
        VillageShow x = with(garden(3, 0), "bar 1 when not(size=2 or size=6);marks 1;", "bar 1 when 1<pieces;marks 1;");
        best(e, "the second piece is less than all three", x, 2, 0b10, 0b1);
        best(e, "a greater pair before a less single one",
            with(garden(3, 0), "", "marks 5*(size=2)+9*(size=4 and pieces=2);"), 9, 0, 0b101);
        best(e, "a less pair behind a greater single one",
            with(garden(3, 0), "", "marks 9*(size=2)+5*(size=4 and pieces=2);"), 9, 0, 0b10);
        best(e, "the first class has the pair, the second one the single one",
            with(garden(3, 0), "marks 9*(size=4 and pieces=2);", "marks 5*(size=2)+13*(size=6);"), 14, 0b101, 0b10);
        VillageShow y = with(garden(4, 36), "want 1 kind 1;marks 0;bar 1 when size<3;", "want 1 kind 1;marks size;");
        best(e, "marks of 0 are not more than none", y, 4, 0, bit(39));
        with(y, "want 1 kind 1;marks size;", "want 1 kind 1;marks size;");
        best(e, "the two greatest, the less for the first", y, 7, bit(38), bit(39));
        with(y, "want 1 kind 1;marks 5;bar 1 when size<4;", "marks 5;");
        best(e, "the last piece for the first, the first for the second", y, 10, bit(39), bit(36));
    }

    private static void setsEnds(Edges e) {
        e.at(34, "MARKS together");
        String greatest = "marks " + Edges.GREATEST;
        best(e, "the greatest ints", with(garden(2, 38), greatest + ";", greatest + ";"), 2L * Edges.HIGH, bit(38),
            bit(39));
        best(e, "the greatest int and 1", with(garden(2, 0), greatest + "+pieces;", "marks 0;"), 0, 0, 0);
        best(e, "the least int, less 1 for each", with(garden(2, 0), "marks " + Edges.LEAST + "-pieces;", ""),
            Edges.HIGH, 0b1, 0);
    }

    private static void setsRefused(Edges e) {
        e.at(34, "NoSuchElementException: others, not told, the same, more than 10.");
        for (int who : new int[] {-1, 3, 8, 10, Edges.LOW, Edges.HIGH}) {
            e.refuses("exhibitor " + who, x -> x.sets(who, 0, 3, 0));
        }
        for (int kind : new int[] {-1, 1, 8, 10, Edges.LOW, Edges.HIGH}) {
            e.refuses("first class " + kind, x -> x.sets(0, kind, 3, 0));
            e.refuses("second class " + kind, x -> x.sets(0, 3, kind, 0));
            e.refuses("both classes " + kind, x -> x.sets(0, kind, kind, 0));
        }
        for (int kind : new int[] {0, 3, 9}) {
            e.refuses("the same " + kind, x -> x.sets(0, kind, kind, 0));
        }
        for (int what : Edges.outside(0, 2)) {
            e.refuses("what " + what, x -> x.sets(0, 0, 3, what));
        }
        e.at(34, "SETS of an EXHIBITOR for two CLASSES, what 0: MARKS together, 1, 2: PIECES as bits.");
        e.leaves("what 0", 14 + 16 + 1, x -> x.sets(0, 3, 9, 0));
        e.leaves("what 1", bit(2) | bit(3), x -> x.sets(0, 3, 9, 1));
        e.leaves("what 2", 0, x -> x.sets(0, 3, 9, 2));
    }

    // ---- 35

    private static void years(Edges e) {
        e.at(35, "YEARS 0 to 4 (0 the last one): ENTRIES of a CLASS (0 to 99) as told.");
        for (int kind = 0; kind < 10; kind++) {
            VillageShow x = new VillageShow();
            for (int year = 0; year < 5; year++) {
                e.yes("class " + kind + ", year " + year + ": 0", x.year(kind, year, 0));
                e.yes("class " + kind + ", year " + year + ": 99", x.year(kind, year, 99));
                e.yes("class " + kind + ", year " + year, x.year(kind, year, 90 + year));
            }
            Checks.schedule(x, kind, "");
            for (int year = 4; year >= 0; year--) {
                e.due("class " + kind + " is told, year " + year, x.taken(0, true), 90 + year);
                e.yes("not told any more", x.year(kind, year, NONE));
            }
            e.due("no year is told", x.taken(0, true), 0);
        }
        e.at(35, "ENTRIES of a CLASS (told or not) in a YEAR (NONE: not told any more): true; false: others.");
        VillageShow x = new VillageShow();
        Checks.schedule(x, 1, "");
        Checks.plan(x, "drop when years=0;split when last=0;");
        e.due("no year is told", x.planned(1, 0), 1);
        e.yes("0 is told", x.year(1, 0, 0));
        e.due("a year is told", x.planned(1, 0), 2);
        e.yes("not any more", x.year(1, 0, NONE));
        e.due("no year is told", x.planned(1, 0), 1);
        e.yes("also if it was not", x.year(1, 0, NONE));
        e.yes("and of a class that is not told", x.year(0, 4, NONE));
        e.yes("years of other classes", x.year(0, 4, 9) && x.year(2, 0, 9));
        e.due("are not this one's", x.planned(1, 0), 1);
    }

    private static void yearRefused(Edges e) {
        e.at(35, "true; false: others.");
        for (int kind : Edges.outside(0, 9)) {
            e.declines("class " + kind, x -> x.year(kind, 0, 50));
            e.declines("class " + kind + ", not any more", x -> x.year(kind, 0, NONE));
        }
        for (int year : Edges.outside(0, 4)) {
            e.declines("year " + year, x -> x.year(3, year, 50));
            e.declines("year " + year + ", not any more", x -> x.year(3, year, NONE));
        }
        for (int n : Edges.outside(NONE, 99)) {
            for (int year = 0; year < 5; year++) {
                int its = year;
                e.declines(n + " entries in year " + year, x -> x.year(3, its, n));
            }
        }
    }

    // ---- 36

    private static void holds(Edges e, VillageShow x, int kind, String fact, int value) {
        Checks.plan(x, "drop when " + fact + "=" + value + ";split when " + fact + "<" + value + ";");
        e.due(fact + " of class " + kind + " is " + value, x.planned(kind, 0), 1);
    }

    private static void planFacts(Edges e) {
        e.at(36, "Facts of a PLAN, of a CLASS: now (ENTRIES that STAND),");
        VillageShow x = garden(40, 0);
        Checks.schedule(x, 0, "bar 1 when 1;");
        Checks.schedule(x, 9, "");
        holds(e, x, 0, "now", 0);
        for (int entry = 0; entry < 40; entry++) {
            x.entry(9 * (entry % 2), 0, bit(entry), 0);
        }
        holds(e, x, 0, "now", 20);
        holds(e, x, 9, "now", 20);
        for (int entry = 0; entry < 38; entry++) {
            x.strike(entry);
        }
        holds(e, x, 0, "now", 1);
        x.strike(39);
        holds(e, x, 9, "now", 0);
        e.at(36, "kind (wanted; 10 without), wanted (how many PIECES; 0 without).");
        holds(e, x, 0, "kind", 10);
        holds(e, x, 0, "wanted", 0);
        for (int kind = 0; kind <= 9; kind++) {
            int many = 1 + kind % 8;
            Checks.schedule(x, 0, "want " + many + " kind " + kind + ";");
            holds(e, x, 0, "kind", kind);
            holds(e, x, 0, "wanted", many);
        }
        Checks.schedule(x, 0, "");
        holds(e, x, 0, "kind", 10);
        holds(e, x, 0, "wanted", 0);
    }

    private static void planYears(Edges e) {
        e.at(36, "last (of YEAR 0; 0, if it is not told), most, least, mean (of the YEARS told, cut; 0 without), years (how many"
            + " are told),");
        VillageShow x = new VillageShow();
        Checks.schedule(x, 0, "");
        int[][] told = {{}, {0, 0}, {0, 99}, {4, 99}, {0, 5, 1, 6}, {1, 5, 2, 6, 4, 6}, {2, 0}, {1, 0, 3, 1}, {0, 0, 1, 99},
            {0, 99, 1, 99, 2, 99, 3, 99, 4, 99}, {0, 0, 1, 0, 2, 0, 3, 0, 4, 0}, {0, 1, 1, 2, 2, 3, 3, 4, 4, 9},
            {0, 9, 1, 4, 2, 3, 3, 2, 4, 2}, {3, 7}};
        int[][] due = {{0, 0, 0, 0, 0}, {0, 0, 0, 0, 1}, {99, 99, 99, 99, 1}, {0, 99, 99, 99, 1}, {5, 6, 5, 5, 2},
            {0, 6, 5, 5, 3}, {0, 0, 0, 0, 1}, {0, 1, 0, 0, 2}, {0, 99, 0, 49, 2}, {99, 99, 99, 99, 5}, {0, 0, 0, 0, 5},
            {1, 9, 1, 3, 5}, {9, 9, 2, 4, 5}, {0, 7, 7, 7, 1}};
        String[] facts = {"last", "most", "least", "mean", "years"};
        for (int i = 0; i < told.length; i++) {
            for (int year = 0; year < 5; year++) {
                x.year(0, year, NONE);
            }
            for (int k = 0; k < told[i].length; k += 2) {
                x.year(0, told[i][k], told[i][k + 1]);
            }
            for (int fact = 0; fact < 5; fact++) {
                holds(e, x, 0, facts[fact], due[i][fact]);
            }
        }
    }

    private static void planNeighbours(Edges e) {
        e.at(36, "(of the YEARS told, cut; 0 without)");
        VillageShow x = new VillageShow();
        for (int kind = 0; kind < 10; kind++) {
            Checks.schedule(x, kind, "");
            for (int year = 0; year < 5; year++) {
                x.year(kind, year, 10 * kind + year);
            }
        }
        for (int kind = 0; kind < 10; kind++) {
            holds(e, x, kind, "last", 10 * kind);
            holds(e, x, kind, "most", 10 * kind + 4);
            holds(e, x, kind, "least", 10 * kind);
            holds(e, x, kind, "mean", 10 * kind + 2);
            holds(e, x, kind, "years", 5);
            for (int year = 0; year < 5; year++) {
                x.year(kind, year, NONE);
            }
            for (String fact : new String[] {"last", "most", "least", "mean", "years"}) {
                holds(e, x, kind, fact, 0);
            }
        }
    }

    private static void planLines(Edges e) {
        e.at(36, "By the PLAN a CLASS told is 1 DROPPED, else 2 SPLIT, else 3 JOINED, by the first line of these whose E is not"
            + " 0; else 0.");
        VillageShow x = new VillageShow();
        Checks.schedule(x, 9, "");
        e.due("no plan", x.planned(9, 0), 0);
        for (int lines = 0; lines < 8; lines++) {
            String join = "join when " + ((lines & 4) != 0 ? "0-1" : "0") + ";";
            String split = "split when " + ((lines & 2) != 0 ? "9999" : "0") + ";";
            String drop = "drop when " + ((lines & 1) != 0 ? "256*256*256*128" : "256*256*256*256") + ";";
            int due = (lines & 1) != 0 ? 1 : (lines & 2) != 0 ? 2 : (lines & 4) != 0 ? 3 : 0;
            Checks.plan(x, join + split + drop);
            e.due("lines " + lines, x.planned(9, 0), due);
            Checks.plan(x, drop + join + split);
            e.due("lines " + lines + " in another order", x.planned(9, 0), due);
        }
        Checks.plan(x, "join when 1;");
        e.due("join alone", x.planned(9, 0), 3);
        Checks.plan(x, "split when 1;");
        e.due("split alone", x.planned(9, 0), 2);
        Checks.plan(x, "");
        e.due("no line", x.planned(9, 0), 0);
    }

    private static void pairs(Edges e, String what, VillageShow x, int... with) {
        for (int kind = 0; kind < 10; kind++) {
            e.due(what + ", class " + kind, x.planned(kind, 1), with[kind]);
        }
    }

    private static void planPairs(Edges e) {
        e.at(36, "JOINED ones of one KIND wanted (or without) are paired in order: the first with the second, and so on.");
        VillageShow x = new VillageShow();
        for (int kind = 0; kind < 10; kind++) {
            Checks.schedule(x, kind, "");
        }
        pairs(e, "no plan", x, NONE, NONE, NONE, NONE, NONE, NONE, NONE, NONE, NONE, NONE);
        Checks.plan(x, "join when 1;");
        pairs(e, "ten without", x, 1, 0, 3, 2, 5, 4, 7, 6, 9, 8);
        Checks.schedule(x, 4, "want 1 kind 0;");
        pairs(e, "nine without, one of kind 0", x, 1, 0, 3, 2, NONE, 6, 5, 8, 7, NONE);
        Checks.schedule(x, 0, "want 8 kind 0;");
        pairs(e, "eight without, two of kind 0", x, 4, 2, 1, 5, 0, 3, 7, 6, 9, 8);
        for (int kind = 0; kind < 10; kind++) {
            Checks.schedule(x, kind, "want 1 kind " + kind / 3 + ";");
        }
        pairs(e, "three of each kind", x, 1, 0, NONE, 4, 3, NONE, 7, 6, NONE, NONE);
        Checks.plan(x, "drop when kind=1;split when kind=2;join when 1;");
        pairs(e, "dropped and split ones have none", x, 1, 0, NONE, NONE, NONE, NONE, NONE, NONE, NONE, NONE);
        for (int kind = 0; kind < 10; kind++) {
            Checks.schedule(x, kind, "want " + (1 + kind % 3) + " kind 9;");
        }
        Checks.plan(x, "join when not(wanted=2);");
        pairs(e, "those that are not joined are passed over", x, 2, NONE, 0, 5, NONE, 3, 8, NONE, 6, NONE);
        Checks.plan(x, "join when wanted=2;");
        pairs(e, "one is left over", x, NONE, 4, NONE, NONE, 1, NONE, NONE, NONE, NONE, NONE);
        VillageShow y = new VillageShow();
        Checks.schedule(y, 0, "");
        Checks.schedule(y, 9, "");
        Checks.plan(y, "join when 1;");
        pairs(e, "the first and the last", y, 9, NONE, NONE, NONE, NONE, NONE, NONE, NONE, NONE, 0);
    }

    private static void plannedRefused(Edges e) {
        e.at(36, "what 0: 0 to 3, 1: with which it is JOINED (NONE: none). NONE: others, not told.");
        for (int kind : new int[] {-1, 1, 8, 10, Edges.LOW, Edges.HIGH}) {
            e.none("class " + kind, x -> x.planned(kind, 0));
            e.none("class " + kind + ", with which", x -> x.planned(kind, 1));
        }
        for (int what : Edges.outside(0, 1)) {
            e.none("what " + what, x -> x.planned(0, what));
        }
        VillageShow y = new VillageShow();
        Checks.schedule(y, 0, "");
        Checks.schedule(y, 1, "");
        Checks.plan(y, "join when 1;");
        e.due("class 0 is joined with 1", y.planned(0, 1), 1);
        for (int what : Edges.outside(0, 1)) {
            e.due("what " + what + " where there is one", y.planned(0, what), NONE);
        }
        e.at(36, "What a CLASS is by the PLAN,");
        e.leaves("class 0 is joined", 3, x -> x.planned(0, 0));
        e.leaves("with none", NONE, x -> x.planned(0, 1));
        e.leaves("class 3 is dropped", 1, x -> x.planned(3, 0));
        e.leaves("class 9 is joined", 3, x -> x.planned(9, 0));
    }

    // ---- 37

    private static void markHolds(Edges e) {
        e.at(37, "MARKS 0 to 3 hold how many ENTRIES there are, which are STRUCK, JARS LOST, by whom CLASSES are JUDGED;");
        for (int mark = 0; mark < 4; mark++) {
            VillageShow x = Sample.show();
            x.book();
            e.yes("laid", x.mark(mark, false));
            x.strike(0);
            x.strike(4);
            x.lost(1, 9);
            x.lost(0, 2);
            x.judged(0, NONE);
            x.judged(9, 1);
            x.judged(3, 3);
            e.due("a piece is free again", x.entry(3, 9, bit(37), 3), 5);
            x.lost(5, 3);
            e.due("a new one", x.entry(9, 1, bit(7), 0), 6);
            x.exhibitor(5, 5, 55, true);
            x.piece(20, 5, 5, 5, 5);
            Checks.schedule(x, 5, "");
            x.judge(2, 0);
            x.lean(2, 0, 9);
            x.table(0, 99);
            x.year(5, 0, 5);
            e.yes("gone back to", x.mark(mark, true));
            e.due("entries", x.count(3), 5);
            e.due("that stand", x.count(4), 4);
            e.due("jars lost", x.count(10), 4);
            e.due("classes judged", x.count(6), 2);
            e.due("entry 0 stands", x.fact(0, 13), 1);
            e.due("entry 3 does not", x.fact(3, 13), 0);
            e.due("class 0 is judged by judge 0", x.place(0, NONE), 2);
            e.due("class 3 is not", x.place(2, NONE), NONE);
            e.refused("entry 5 is gone", () -> x.fact(5, 0));
            e.refused("entry 6 is gone", () -> x.fact(6, 0));
            e.due("its piece is in entry 4", x.entry(3, 9, bit(37), 3), NONE);
            e.due("the other one is free", x.entry(3, 1, bit(7), 3), 5);
            e.due("of the new entry no jar is lost", x.count(10), 4);
            e.due("exhibitors stay", x.count(0), 5);
            e.due("pieces stay", x.count(1), 17);
            e.due("classes stay", x.count(2), 4);
            e.due("judges stay", x.count(7), 4);
            e.due("leans stay", x.marks(0, 2), 13);
            e.due("years stay", x.taken(0, true), 14);
        }
    }

    private static void markLeaves(Edges e) {
        e.at(37, "MARKS 0 to 3 hold");
        VillageShow x = Sample.show();
        x.mark(0, false);
        Checks.feed(x, "bar 0 when worst=9;");
        e.due("a new book", x.book(), 0);
        e.due("a new schedule", Checks.schedule(x, 0, "want 2 kind 1;marks 7;tie size;"), 0);
        e.due("a new plan", Checks.plan(x, "split when now=2 and mean=30 and years=1;"), 0);
        x.exhibitor(1, 3, 99, true);
        x.piece(2, 0, 1, 99, 0);
        x.judge(0, 4);
        x.lean(0, 3, 5);
        x.table(0, 50);
        x.lay(0, 0, 8);
        x.cap(1);
        x.prize(2, 44, 444);
        x.fees(1, 1);
        x.year(0, 4, 30);
        Checks.feed(x, "tape");
        e.yes("back", x.mark(0, true));
        e.due("signs on the tape", x.count(9), 4);
        e.due("bars of the book", x.count(8), 2);
        e.due("which bar", x.verdict(2), 9);
        e.due("the schedule", x.marks(0, 1), 7);
        e.due("the plan and the years", x.planned(0, 0), 2);
        e.due("the exhibitor", x.fact(1, 7), 99);
        e.due("the judge and the lean", x.marks(1, 0), 12);
        e.due("the judge's house", x.kin(0, 3), 0);
        e.due("by whom it is judged is held", x.place(1, NONE), 2);
        e.due("a prize and fees", x.money(1), 444 - 1);
        e.due("points", x.points(true, 3), 44);
        e.due("where it lies", x.taken(0, false), 17);
        e.due("the feet", x.moves(false, 0), 0);
        e.due("the cap: one class for judge 1", x.round(4), 1);
        e.due("the cap: one class for judge 3", x.round(10), 3);
        e.due("the piece", x.sets(0, 3, 9, 0), 99 + 16 + 1);
    }

    private static void markEmpty(Edges e) {
        e.at(37, "A MARK is laid (back: gone back to): true; false: none such, nothing is on it (back).");
        VillageShow x = garden(3, 0);
        Checks.schedule(x, 0, "");
        for (int mark = 0; mark < 4; mark++) {
            e.no("nothing is on " + mark, x.mark(mark, true));
        }
        e.yes("laid on an empty show", x.mark(2, false));
        e.no("nothing is on 1", x.mark(1, true));
        e.no("nothing is on 3", x.mark(3, true));
        x.entry(0, 0, 1, 5);
        x.lost(0, 5);
        x.judge(0, 5);
        x.judged(0, 0);
        e.yes("back to nothing", x.mark(2, true));
        e.due("no entry", x.count(3) + x.count(4) + x.count(6) + x.count(10), 0);
        e.no("no entry to be struck", x.strike(0));
        e.yes("back once more: it stays laid", x.mark(2, true));
        e.due("the piece is free: entry 0", x.entry(0, 0, 1, 0), 0);
        e.due("no jar is lost", x.count(10), 0);
        e.no("none can be", x.lost(0, 1));
    }

    private static void marksBehind(Edges e) {
        e.at(37, "when one is gone back to MARKS laid behind it are gone, too.");
        for (int to = 0; to < 4; to++) {
            for (int turn = 0; turn < 2; turn++) {
                VillageShow x = garden(9, 0);
                Checks.schedule(x, 0, "");
                for (int i = 0; i < 4; i++) {
                    x.entry(0, 0, bit(i), 0);
                    x.mark(turn == 0 ? i : 3 - i, false);
                }
                e.yes("back to laid " + to, x.mark(turn == 0 ? to : 3 - to, true));
                e.due("as it was", x.count(3), to + 1);
                for (int i = 3; i >= 0; i--) {
                    boolean there = x.mark(turn == 0 ? i : 3 - i, true);
                    e.due("laid " + i + " after going back to laid " + to, there ? 1 : 0, i <= to ? 1 : 0);
                    e.due("as it was", x.count(3), Math.min(i, to) + 1);
                }
            }
        }
        VillageShow x = garden(9, 0);
        Checks.schedule(x, 0, "");
        x.mark(0, false);
        x.mark(1, false);
        x.entry(0, 0, bit(0), 0);
        e.yes("0 is laid anew, behind 1", x.mark(0, false));
        x.entry(0, 0, bit(1), 0);
        e.yes("back to 0", x.mark(0, true));
        e.due("what it holds now", x.count(3), 1);
        e.yes("1 is there", x.mark(1, true));
        e.due("nothing was there then", x.count(3), 0);
        e.no("0 is gone: it was laid behind 1", x.mark(0, true));
        e.yes("0 is laid once more", x.mark(0, false));
        e.yes("and 2", x.mark(2, false));
        e.yes("back to 0", x.mark(0, true));
        e.no("2 is gone", x.mark(2, true));
        e.yes("1 is not", x.mark(1, true));
        e.no("now 0 is", x.mark(0, true));
        e.yes("1 is laid on itself", x.mark(1, false) && x.mark(1, true) && x.mark(1, true));
    }

    private static void markFull(Edges e) {
        e.at(37, "hold how many ENTRIES there are, which are STRUCK, JARS LOST");
        VillageShow x = garden(40, 0);
        x.judge(0, 5);
        for (int kind = 0; kind < 10; kind++) {
            Checks.schedule(x, kind, "");
            x.judged(kind, 0);
        }
        for (int entry = 0; entry < 40; entry++) {
            x.entry(entry % 10, 0, bit(entry), 9);
            x.lost(entry, entry % 10);
        }
        x.mark(0, false);
        for (int entry = 0; entry < 40; entry++) {
            x.strike(entry);
            x.lost(entry, 9);
        }
        for (int kind = 0; kind < 10; kind++) {
            x.judged(kind, NONE);
        }
        x.mark(3, false);
        e.due("none stands, all is lost, none is judged", x.count(4) + x.count(6) + x.count(10), 360);
        e.yes("back to what is full", x.mark(0, true));
        e.due("40", x.count(3), 40);
        e.due("all stand", x.count(4), 40);
        e.due("lost as they were", x.count(10), 180);
        e.due("all are judged", x.count(6), 10);
        e.due("the last one", x.place(39, NONE), 1);
        e.no("3 is gone", x.mark(3, true));
        e.due("40 are there", x.entry(0, 0, 1, 0), NONE);
    }

    private static void markRefused(Edges e) {
        e.at(37, "true; false: none such, nothing is on it (back).");
        for (int mark : Edges.outside(0, 3)) {
            e.declines("mark " + mark, x -> x.mark(mark, false));
            e.declines("back to mark " + mark, x -> x.mark(mark, true));
        }
        e.declines("nothing is on 0", x -> x.mark(0, true));
        e.declines("nothing is on 2", x -> x.mark(2, true));
    }

    // ---- 38

    private static void counts(Edges e) {
        e.at(38, "What 0: EXHIBITORS, 1: PIECES, 2: CLASSES told, 3: ENTRIES, 4: those that STAND, 5: OUT of these,"
            + " 6: CLASSES JUDGED, 7: JUDGES, 8: bars of the BOOK, 9: signs on the TAPE, 10: JARS LOST.");
        int[] due = {4, 16, 3, 5, 4, 0, 2, 3, 1, 18, 4};
        for (int what = 0; what < due.length; what++) {
            int its = what;
            e.due("a new object, what " + what, new VillageShow().count(what), 0);
            e.leaves("what " + what, due[what], x -> x.count(its));
        }
        VillageShow x = Sample.show();
        x.book();
        e.due("one is out now", x.count(5), 1);
        x.strike(2);
        e.due("which does not stand now", x.count(5), 0);
        e.due("one bar", x.count(8), 1);
        e.due("no sign", x.count(9), 0);
    }

    private static void countsFull(Edges e) {
        e.at(38, "CLASSES 0 to 9, when they are told by a SCHEDULE.");
        VillageShow x = new VillageShow();
        for (int who = 0; who < 10; who++) {
            x.exhibitor(who, 0, 20, false);
            Checks.schedule(x, who, "");
            for (int i = 0; i < 4; i++) {
                x.piece(4 * who + i, who, 1, 1, 1);
                x.entry(who, who, bit(4 * who + i), 9);
                x.lost(4 * who + i, 9);
            }
            x.judge(who % 4, 5);
            x.judged(who, who % 4);
        }
        Checks.book(x, "bar 1 when 1;".repeat(6));
        for (int i = 0; i < 42; i++) {
            x.feed(0x2020202020202020L, 0x2020202020202020L, 0x2020202020202020L);
        }
        int[] due = {10, 40, 10, 40, 40, 40, 10, 4, 6, 1000, 360};
        for (int what = 0; what < due.length; what++) {
            e.due("all that there can be, what " + what, x.count(what), due[what]);
        }
        e.at(38, "2: CLASSES told,");
        e.due("a class told anew, by a full tape", x.schedule(9), 0);
        e.due("is one", x.count(2), 10);
        e.due("a class told anew by a fault", Checks.schedule(x, 9, "marks"), 1 + 16 * 5);
        e.due("is still told", x.count(2), 10);
    }

    private static void countRefused(Edges e) {
        e.at(38, "NONE for another what.");
        for (int what : Edges.outside(0, 10)) {
            e.none("what " + what, x -> x.count(what));
        }
    }
}
