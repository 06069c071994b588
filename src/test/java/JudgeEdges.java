/** The edges of judges, marks and places: promises 14 to 20. */
final class JudgeEdges {
    private static final int NONE = VillageShow.NONE;

    private JudgeEdges() {
    }

    static void run(Edges e) {
        judge(e);
        leansStay(e);
        lean(e);
        everyLean(e);
        kin(e);
        kinRefused(e);
        marks(e);
        marksRefused(e);
        places(e);
        placesOfMany(e);
        placesAtTheEnds(e);
        leansAndTies(e);
        placeRefused(e);
        judged(e);
        judgedRefused(e);
        span(e);
        spanOfMany(e);
        spanRefused(e);
    }

    /**
     * Exhibitors 0 to 5, each of the house of that number, and age 20 + who; piece 4 * who + i of each, grade who,
     * size 10 + i; classes 0 and 9 without a line.
     */
    private static VillageShow houses() {
        VillageShow x = new VillageShow();
        for (int who = 0; who < 6; who++) {
            x.exhibitor(who, who, 20 + who, false);
            for (int i = 0; i < 4; i++) {
                x.piece(4 * who + i, who, 1, 10 + i, who);
            }
        }
        Checks.schedule(x, 0, "");
        Checks.schedule(x, 9, "");
        return x;
    }

    private static int enter(VillageShow x, int kind, int piece) {
        return x.entry(kind, piece / 4, 1L << piece, 0);
    }

    // ---- 14 and 15

    private static void judge(Edges e) {
        e.at(14, "JUDGES 0 to 3: a HOUSE,");
        VillageShow x = houses();
        for (int judge = 0; judge < 4; judge++) {
            e.due("told", x.count(7), judge);
            e.no("not told", x.lean(judge, 0, 1));
            e.yes("judge " + judge, x.judge(judge, 5 - judge));
            e.yes("told", x.lean(judge, 0, 1));
        }
        e.due("all four", x.count(7), 4);
        for (int house = 0; house <= 5; house++) {
            VillageShow y = houses();
            enter(y, 0, 4 * house);
            enter(y, 9, 4 * ((house + 1) % 6));
            e.yes("house " + house, y.judge(3, house));
            e.due("is kin to its own", y.kin(3, 0), 1);
            e.due("and to no other", y.kin(3, 9), 0);
        }
        e.at(14, "true; false: others.");
        for (int judge : Edges.outside(0, 3)) {
            e.declines("judge " + judge, y -> y.judge(judge, 0));
        }
        for (int house : Edges.outside(0, 5)) {
            e.declines("a new one of house " + house, y -> y.judge(2, house));
            e.declines("one told, of house " + house, y -> y.judge(0, house));
        }
    }

    private static void leansStay(Edges e) {
        e.at(14, "A JUDGE (in place of what was told; LEANS stay)");
        VillageShow x = houses();
        for (int who = 0; who < 6; who++) {
            enter(x, 0, 4 * who);
        }
        x.judge(2, 0);
        for (int house = 0; house < 6; house++) {
            x.lean(2, house, 2 * house - 5);
        }
        e.yes("told anew", x.judge(2, 5));
        e.due("one judge", x.count(7), 1);
        for (int house = 0; house < 6; house++) {
            e.due("the lean for house " + house, x.marks(house, 2), 2 * house - 5);
        }
        e.yes("the same", x.judge(2, 5));
        e.due("one judge", x.count(7), 1);
        e.due("the lean", x.marks(0, 2), -5);
        x.strike(5);
        e.due("kin no more", x.kin(2, 0), 0);
        e.yes("in place of what was told", x.judge(2, 0));
        e.due("kin", x.kin(2, 0), 1);
    }

    private static void lean(Edges e) {
        e.at(15, "LEANS (-9 to 9; 0 at first) for each HOUSE.");
        for (int n = -9; n <= 9; n++) {
            VillageShow x = houses();
            x.judge(0, 1);
            enter(x, 0, 0);
            e.due("0 at first", x.marks(0, 0), 0);
            e.yes("lean " + n, x.lean(0, 0, n));
            e.due("marks with " + n, x.marks(0, 0), n);
            e.yes("in place of it", x.lean(0, 0, -n));
            e.due("marks with " + -n, x.marks(0, 0), -n);
        }
        e.at(15, "A LEAN of a JUDGE for a HOUSE: true; false: others, not told.");
        for (int n : Edges.outside(-9, 9)) {
            e.declines("lean " + n, x -> x.lean(0, 0, n));
        }
        for (int house : Edges.outside(0, 5)) {
            e.declines("house " + house, x -> x.lean(0, house, 1));
        }
        for (int judge : new int[] {-1, 2, 4, 5, Edges.LOW, Edges.HIGH}) {
            e.declines("judge " + judge, x -> x.lean(judge, 0, 1));
        }
    }

    private static int leanOf(int judge, int house) {
        return (7 * (6 * judge + house) + 3) % 19 - 9;
    }

    private static void everyLean(Edges e) {
        e.at(15, "for each HOUSE");
        VillageShow x = houses();
        for (int who = 0; who < 6; who++) {
            enter(x, 0, 4 * who);
        }
        for (int judge = 0; judge < 4; judge++) {
            x.judge(judge, 0);
            for (int house = 0; house < 6; house++) {
                e.due("0 at first", x.marks(house, judge), 0);
            }
        }
        for (int judge = 0; judge < 4; judge++) {
            for (int house = 0; house < 6; house++) {
                e.yes("told", x.lean(judge, house, leanOf(judge, house)));
            }
        }
        for (int judge = 0; judge < 4; judge++) {
            for (int house = 0; house < 6; house++) {
                e.due("judge " + judge + " for house " + house, x.marks(house, judge), leanOf(judge, house));
            }
        }
    }

    // ---- 16

    private static void kin(Edges e) {
        e.at(16, "A JUDGE is KIN to a CLASS if an ENTRY in it STANDS of somebody of their HOUSE.");
        VillageShow x = houses();
        x.judge(0, 2);
        e.due("no entry", x.kin(0, 0), 0);
        enter(x, 0, 4);
        e.due("of another house", x.kin(0, 0), 0);
        enter(x, 9, 8);
        e.due("in another class", x.kin(0, 0), 0);
        e.due("to that one", x.kin(0, 9), 1);
        enter(x, 0, 9);
        e.due("kin", x.kin(0, 0), 1);
        enter(x, 0, 10);
        x.strike(2);
        e.due("one of two is struck", x.kin(0, 0), 1);
        x.strike(3);
        e.due("both are struck", x.kin(0, 0), 0);
        e.due("to the other still", x.kin(0, 9), 1);
        Checks.book(x, "bar 1 when 1;");
        e.due("by one that is out", x.kin(0, 9), 1);
        x.exhibitor(2, 3, 20, false);
        e.due("the exhibitor has gone to another house", x.kin(0, 9), 0);
        x.exhibitor(1, 2, 20, false);
        e.due("somebody else has come", x.kin(0, 0), 1);
        VillageShow y = houses();
        y.exhibitor(9, 5, 20, false);
        y.judge(3, 5);
        for (int piece = 0; piece < 40; piece++) {
            y.piece(piece, piece < 39 ? 0 : 9, 1, 1, 1);
            y.entry(0, piece < 39 ? 0 : 9, 1L << piece, 0);
        }
        e.due("by the last of 40", y.kin(3, 0), 1);
        y.strike(39);
        e.due("by none of 39", y.kin(3, 0), 0);
    }

    private static void kinRefused(Edges e) {
        e.at(16, "Whether a JUDGE is KIN to a CLASS: 1 or 0; NONE: not told.");
        for (int judge : new int[] {-1, 2, 4, 5, Edges.LOW, Edges.HIGH}) {
            e.none("judge " + judge, x -> x.kin(judge, 0));
        }
        for (int kind : new int[] {-1, 1, 8, 10, Edges.LOW, Edges.HIGH}) {
            e.none("class " + kind, x -> x.kin(0, kind));
        }
        e.leaves("kin", 1, x -> x.kin(1, 0));
        e.leaves("not kin", 0, x -> x.kin(0, 0));
        e.leaves("judge 3, class 9", 0, x -> x.kin(3, 9));
    }

    // ---- 17

    private static void marks(Edges e) {
        e.at(17, "MARKS of an ENTRY by a JUDGE: marks' E (0 without) and the LEAN for its HOUSE.");
        VillageShow x = houses();
        x.judge(0, 5);
        x.judge(3, 1);
        enter(x, 0, 4);
        e.due("0 without", x.marks(0, 0), 0);
        Checks.schedule(x, 0, "tie 7;");
        e.due("tie's E is none of it", x.marks(0, 0), 0);
        x.lean(0, 1, 9);
        e.due("the lean", x.marks(0, 0), 9);
        Checks.schedule(x, 0, "marks 0-20;");
        e.due("below 0", x.marks(0, 0), -11);
        x.lean(0, 2, 5);
        e.due("a lean for another house", x.marks(0, 0), -11);
        e.due("by another judge, who is kin", x.marks(0, 3), -20);
        Checks.book(x, "bar 1 when 1;");
        e.due("of one that is out", x.marks(0, 0), -11);
        x.strike(0);
        e.due("of a struck one", x.marks(0, 0), -11);
        e.at(17, "ints wrap");
        Checks.schedule(x, 0, "marks " + Edges.GREATEST + ";");
        e.due("the greatest int and 9", x.marks(0, 0), Edges.LOW + 8);
        x.lean(0, 1, 1);
        e.due("the greatest int and 1", x.marks(0, 0), Edges.LOW);
        x.lean(0, 1, 0);
        e.due("the greatest int", x.marks(0, 0), Edges.HIGH);
        Checks.schedule(x, 0, "marks " + Edges.LEAST + ";");
        e.due("the least int", x.marks(0, 0), Edges.LOW);
        x.lean(0, 1, -1);
        e.due("the least int less 1", x.marks(0, 0), Edges.HIGH);
        x.lean(0, 1, -9);
        e.due("the least int less 9", x.marks(0, 0), Edges.HIGH - 8);
    }

    private static void marksRefused(Edges e) {
        e.at(17, "MARKS of an ENTRY by a JUDGE. NoSuchElementException: others, not told.");
        for (int entry : new int[] {-1, 5, 6, 39, 40, 63, 64, Edges.LOW, Edges.HIGH}) {
            e.refuses("entry " + entry, x -> x.marks(entry, 0));
        }
        for (int judge : new int[] {-1, 2, 4, 5, Edges.LOW, Edges.HIGH}) {
            e.refuses("judge " + judge, x -> x.marks(0, judge));
        }
        e.leaves("entry 0", 13, x -> x.marks(0, 0));
        e.leaves("a struck one", 82 - 9, x -> x.marks(3, 3));
        VillageShow x = houses();
        x.judge(0, 0);
        e.refused("no entry", () -> x.marks(0, 0));
        enter(x, 0, 0);
        e.refused("no judge 1", () -> x.marks(0, 1));
        e.due("entry and judge", x.marks(0, 0), 0);
    }

    // ---- 18

    private static void placed(Edges e, VillageShow x, int judge, int... due) {
        for (int entry = 0; entry < due.length; entry++) {
            e.due("the place of entry " + entry, x.place(entry, judge), due[entry]);
        }
    }

    private static void places(Edges e) {
        e.at(18, "PLACES in a CLASS: of ENTRIES that STAND and are not OUT, by MARKS, the greatest first,");
        VillageShow x = houses();
        x.judge(0, 5);
        Checks.schedule(x, 0, "marks grade;tie size;");
        enter(x, 0, 8);
        placed(e, x, 0, 1);
        enter(x, 0, 12);
        placed(e, x, 0, 2, 1);
        enter(x, 0, 4);
        placed(e, x, 0, 2, 1, 3);
        enter(x, 9, 16);
        placed(e, x, 0, 2, 1, 3, 1);
        e.at(18, "then by tie's E (0 without), the greatest first;");
        enter(x, 0, 9);
        placed(e, x, 0, 3, 1, 4, 1, 2);
        Checks.schedule(x, 0, "marks grade;tie 0-size;");
        placed(e, x, 0, 2, 1, 4, 1, 3);
        e.at(18, "ENTRIES that are alike in both have the same PLACE: 1 and how many are ahead.");
        Checks.schedule(x, 0, "marks grade;");
        placed(e, x, 0, 2, 1, 4, 1, 2);
        Checks.schedule(x, 0, "marks 0<grade;");
        placed(e, x, 0, 1, 1, 1, 1, 1);
        Checks.schedule(x, 0, "tie grade;");
        placed(e, x, 0, 2, 1, 4, 1, 2);
        x.lean(0, 1, 1);
        placed(e, x, 0, 3, 2, 1, 1, 3);
        x.lean(0, 1, 0);
        x.strike(1);
        placed(e, x, 0, 1, NONE, 3, 1, 1);
        Checks.book(x, "bar 0 when grade=2 and size=10;");
        placed(e, x, 0, NONE, NONE, 2, 1, 1);
        Checks.book(x, "bar 0 when 1;");
        placed(e, x, 0, NONE, NONE, NONE, NONE, NONE);
    }

    private static void placesOfMany(Edges e) {
        e.at(18, "1 and how many are ahead.");
        VillageShow x = houses();
        x.judge(0, 5);
        x.judge(1, 5);
        x.lean(1, 0, 1);
        for (int piece = 0; piece < 40; piece++) {
            x.piece(piece, piece % 2, 1, 1 + piece, piece % 10);
            x.entry(0, piece % 2, 1L << piece, 0);
        }
        e.due("the last of 40 is alike", x.place(39, 0), 1);
        e.due("the first of 40 is alike", x.place(0, 0), 1);
        e.due("20 are ahead by a lean", x.place(39, 1), 21);
        Checks.schedule(x, 0, "marks size;");
        for (int entry = 0; entry < 40; entry++) {
            e.due("as many are ahead as are told later", x.place(entry, 0), 40 - entry);
        }
        Checks.schedule(x, 0, "tie 0-size;");
        for (int entry = 0; entry < 40; entry++) {
            e.due("as many are ahead as were told before", x.place(entry, 0), 1 + entry);
        }
        Checks.schedule(x, 0, "marks grade;");
        for (int entry = 0; entry < 40; entry++) {
            e.due("four of each grade", x.place(entry, 0), 1 + 4 * (9 - entry % 10));
        }
    }

    private static void placesAtTheEnds(Edges e) {
        e.at(18, "by MARKS, the greatest first, then by tie's E (0 without), the greatest first;");
        String ends = "(grade=1)*(" + Edges.GREATEST + ")+(grade=2)*(" + Edges.LEAST + ")";
        VillageShow x = houses();
        x.judge(0, 5);
        for (int piece = 0; piece < 12; piece += 4) {
            enter(x, 0, piece);
        }
        Checks.schedule(x, 0, "marks " + ends + ";");
        placed(e, x, 0, 2, 1, 3);
        Checks.schedule(x, 0, "tie " + ends + ";");
        placed(e, x, 0, 2, 1, 3);
        Checks.schedule(x, 0, "marks " + ends + ";tie 9999;");
        x.lean(0, 1, 1);
        x.lean(0, 2, -1);
        placed(e, x, 0, 2, 3, 1);
    }

    /** A lean makes marks alike that are not, and others of those that are; it is no part of tie's E. */
    private static void leansAndTies(Edges e) {
        e.at(18, "ENTRIES that are alike in both have the same PLACE: 1 and how many are ahead.");
        VillageShow x = houses();
        x.judge(0, 5);
        Checks.schedule(x, 0, "marks grade;");
        enter(x, 0, 4);
        enter(x, 0, 8);
        placed(e, x, 0, 2, 1);
        x.lean(0, 1, 1);
        placed(e, x, 0, 1, 1);
        e.at(18, "then by tie's E (0 without), the greatest first;");
        Checks.schedule(x, 0, "marks grade;tie size;");
        placed(e, x, 0, 1, 1);
        Checks.schedule(x, 0, "marks grade;tie grade;");
        placed(e, x, 0, 2, 1);
        Checks.schedule(x, 0, "marks grade;tie 0-grade;");
        placed(e, x, 0, 1, 2);
        x.lean(0, 2, -9);
        x.lean(0, 1, -8);
        Checks.schedule(x, 0, "marks grade;tie size+2*grade;");
        placed(e, x, 0, 2, 1);
        x.lean(0, 1, -7);
        placed(e, x, 0, 1, 2);
    }

    private static void placeRefused(Edges e) {
        e.at(18, "NONE: others, it does not STAND, is OUT, is not JUDGED.");
        for (int entry : new int[] {-1, 5, 6, 39, 40, 63, 64, Edges.LOW, Edges.HIGH}) {
            e.none("entry " + entry, x -> x.place(entry, 0));
            e.none("entry " + entry + " as judged", x -> x.place(entry, NONE));
        }
        for (int judge : new int[] {-2, 2, 4, 5, Edges.LOW, Edges.HIGH}) {
            e.none("judge " + judge, x -> x.place(0, judge));
        }
        e.none("it does not stand", x -> x.place(3, 0));
        e.none("it does not stand, as judged", x -> x.place(3, NONE));
        e.none("its class is not judged", x -> x.place(2, NONE));
        e.leaves("by a judge", 1, x -> x.place(2, 0));
        e.leaves("by a judge who is kin", 1, x -> x.place(1, 1));
        VillageShow x = Sample.show();
        x.book();
        e.due("it is out now", x.place(2, 0), NONE);
        e.at(18, "The PLACE of an ENTRY by a JUDGE (NONE: by whom its CLASS is JUDGED);");
        e.due("class 0 by judge 0", x.place(0, NONE), 2);
        e.due("class 0 by judge 0", x.place(1, NONE), 1);
        e.due("class 9 by judge 3", x.place(4, NONE), 1);
        x.lean(0, 1, -9);
        e.due("judge 0 leans", x.place(0, NONE), 1);
        e.due("as judge 0 does", x.place(0, 0), 1);
        e.due("judge 3 does not", x.place(0, 3), 2);
        x.judged(0, 3);
        e.due("now judge 3 counts", x.place(0, NONE), 2);
        x.judged(0, NONE);
        e.due("now nobody", x.place(0, NONE), NONE);
    }

    // ---- 19

    private static void judged(Edges e) {
        e.at(19, "A CLASS is JUDGED by a JUDGE (told, not KIN when that is told).");
        VillageShow x = houses();
        x.judge(0, 0);
        x.judge(3, 1);
        e.yes("a class without an entry", x.judged(0, 3));
        enter(x, 0, 0);
        e.due("its judge", x.place(0, NONE), 1);
        enter(x, 0, 4);
        e.due("kin to it", x.kin(3, 0), 1);
        e.due("it stays judged", x.place(1, NONE), 1);
        e.no("it cannot be told now", x.judged(0, 3));
        e.due("it stays judged all the same", x.count(6), 1);
        x.strike(1);
        e.yes("now it can", x.judged(0, 3));
        x.judge(3, 0);
        e.no("kin again, of another house", x.judged(0, 3));
        e.due("it stays judged", x.place(0, NONE), 1);
        e.at(19, "(NONE: not any more, also if it was not)");
        e.yes("not any more", x.judged(0, NONE));
        e.due("none", x.count(6), 0);
        e.yes("also if it was not", x.judged(0, NONE));
        e.yes("also class 9", x.judged(9, NONE));
        e.due("none", x.count(6), 0);
        VillageShow y = new VillageShow();
        y.judge(0, 0);
        y.judge(3, 0);
        for (int kind = 0; kind < 10; kind++) {
            Checks.schedule(y, kind, "");
            e.due("so many", y.count(6), kind);
            e.yes("class " + kind, y.judged(kind, kind % 2 * 3));
        }
        e.due("all ten", y.count(6), 10);
        e.yes("by another one", y.judged(9, 0));
        e.due("are ten", y.count(6), 10);
    }

    private static void judgedRefused(Edges e) {
        e.at(19, "A CLASS is JUDGED by a JUDGE (NONE: not any more, also if it was not): true; false: not told, KIN.");
        for (int kind : new int[] {-1, 1, 8, 10, Edges.LOW, Edges.HIGH}) {
            e.declines("class " + kind, x -> x.judged(kind, 0));
            e.declines("class " + kind + ", none", x -> x.judged(kind, NONE));
        }
        for (int judge : new int[] {-2, 2, 4, 5, Edges.LOW, Edges.HIGH}) {
            e.declines("judge " + judge, x -> x.judged(0, judge));
            e.declines("judge " + judge + ", not judged", x -> x.judged(3, judge));
        }
        e.declines("kin", x -> x.judged(0, 1));
    }

    // ---- 20

    private static void span(Edges e) {
        e.at(20, "SPAN of an ENTRY: its least and greatest PLACE by any JUDGE told who is not KIN now.");
        VillageShow x = houses();
        for (int who = 0; who < 4; who++) {
            enter(x, 0, 4 * who);
        }
        e.due("no judge", x.span(0, 0), NONE);
        x.judge(0, 0);
        x.lean(0, 3, 9);
        e.due("only one who is kin", x.span(0, 0), NONE);
        e.due("only one who is kin", x.span(0, 1), NONE);
        x.judge(3, 4);
        e.due("one who is not: alike", x.span(0, 1), 1);
        x.lean(3, 0, 3);
        x.lean(3, 1, 2);
        x.lean(3, 2, 1);
        e.due("the last by judge 3", x.span(3, 0), 4);
        e.due("the last by judge 3", x.span(3, 1), 4);
        x.judge(1, 5);
        x.lean(1, 2, 1);
        x.lean(1, 3, 2);
        int[][] due = {{1, 3}, {2, 3}, {2, 3}, {1, 4}};
        for (int entry = 0; entry < 4; entry++) {
            e.due("the least of " + entry, x.span(entry, 0), due[entry][0]);
            e.due("the greatest of " + entry, x.span(entry, 1), due[entry][1]);
        }
        x.strike(0);
        e.due("judge 0 is not kin now", x.span(1, 0), 1);
        e.due("judge 0 is not kin now", x.span(1, 1), 3);
        e.due("of the last", x.span(3, 0), 1);
        e.due("of the last", x.span(3, 1), 3);
        x.judge(1, 3);
        e.due("judge 1 is kin now", x.span(1, 1), 2);
        x.judged(0, 3);
        e.due("by any, not by whom it is judged", x.span(3, 0), 1);
    }

    private static void spanOfMany(Edges e) {
        e.at(20, "SPAN, what 0: the least PLACE, 1: the greatest;");
        VillageShow x = houses();
        for (int judge = 0; judge < 4; judge++) {
            x.judge(judge, 5);
            x.lean(judge, 1, new int[] {0, -9, 9, 0}[judge]);
        }
        for (int piece = 0; piece < 40; piece++) {
            x.piece(piece, piece == 39 ? 1 : 0, 1, 1, 1);
            x.entry(0, piece == 39 ? 1 : 0, 1L << piece, 0);
        }
        e.due("the last of 40 may be the first", x.span(39, 0), 1);
        e.due("or the last", x.span(39, 1), 40);
        e.due("the others", x.span(0, 0), 1);
        e.due("the others", x.span(38, 1), 2);
    }

    private static void spanRefused(Edges e) {
        e.at(20, "NONE: others, it does not STAND, is OUT, no such JUDGE.");
        for (int entry : new int[] {-1, 5, 6, 39, 40, 63, 64, Edges.LOW, Edges.HIGH}) {
            e.none("entry " + entry, x -> x.span(entry, 0));
        }
        for (int what : Edges.outside(0, 1)) {
            e.none("what " + what, x -> x.span(0, what));
        }
        e.none("it does not stand", x -> x.span(3, 0));
        e.none("it does not stand", x -> x.span(3, 1));
        e.leaves("it stands", 2, x -> x.span(0, 0));
        VillageShow x = Sample.show();
        x.book();
        e.due("it is out now", x.span(2, 0), NONE);
        e.due("it is out now", x.span(2, 1), NONE);
        e.due("its verdict", x.verdict(2), 9);
        x.judge(0, 0);
        x.judge(3, 0);
        e.due("all judges are kin", x.span(0, 0), NONE);
        e.due("all judges are kin", x.span(0, 1), NONE);
    }
}
