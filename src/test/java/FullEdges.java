import java.util.NoSuchElementException;

/** A show in which all is told that can be, asked everything: as the document's second telling, the Oracle, answers. */
final class FullEdges {
    private static final int NONE = VillageShow.NONE;

    interface Question {
        long of(VillageShow show);
    }

    interface Due {
        long of(Oracle oracle);
    }

    private final Edges e;
    private VillageShow x;
    private Oracle oracle;

    private FullEdges(Edges e) {
        this.e = e;
    }

    static void run(Edges e) {
        for (int open = 0; open <= 4; open++) {
            FullEdges full = new FullEdges(e);
            full.entries(open);
            full.classes(open);
            full.people(open);
        }
    }

    private void ask(String what, Question question, Due due) {
        e.due("all is full, " + what, answer(question), dueOf(due));
    }

    private long answer(Question question) {
        try {
            return question.of(x);
        } catch (NoSuchElementException refused) {
            return Long.MIN_VALUE;
        }
    }

    private long dueOf(Due due) {
        try {
            return due.of(oracle);
        } catch (NoSuchElementException refused) {
            return Long.MIN_VALUE;
        }
    }

    /** 40 entries that stand; so many classes of three to five entries are not judged, all others are. */
    private void build(int open) {
        x = new VillageShow();
        oracle = new Oracle();
        for (int who = 0; who < 10; who++) {
            x.exhibitor(who, who % 5, 11 + 9 * who, who == 3);
            oracle.exhibitor(who, who % 5, 11 + 9 * who, who == 3);
        }
        for (int kind = 0; kind < 10; kind++) {
            read("bar 1 when 0;bar 2 when 0;bar 3 when 0;bar 4 when 0;bar 5 when 0;bar " + kind
                + " when size=40 and grade=4;marks grade*2+entries;tie size;");
            x.schedule(kind);
            oracle.schedule(kind);
            x.lay(kind, kind % 3, 9 - kind);
            oracle.lay(kind, kind % 3, 9 - kind);
            x.year(kind, 4, 3 + kind);
            oracle.year(kind, 4, 3 + kind);
        }
        for (int piece = 0; piece < 40; piece++) {
            x.piece(piece, piece / 4, piece % 3, 1 + piece, piece * 7 % 10);
            oracle.piece(piece, piece / 4, piece % 3, 1 + piece, piece * 7 % 10);
            x.entry(piece * 3 % 10, piece / 4, 1L << piece, 9);
            oracle.entry(piece * 3 % 10, piece / 4, 1L << piece, 9);
        }
        for (int judge = 0; judge < 4; judge++) {
            x.judge(judge, 5);
            oracle.judge(judge, 5);
            x.lean(judge, 4, 3 * judge);
            oracle.lean(judge, 4, 3 * judge);
        }
        for (int kind = open; kind < 10; kind++) {
            x.judged(kind, kind % 4);
            oracle.judged(kind, kind % 4);
        }
        for (int table = 0; table < 3; table++) {
            x.table(table, 99);
            oracle.table(table, 99);
        }
        x.lost(39, 9);
        oracle.lost(39, 9);
        x.fees(2, 3);
        oracle.fees(2, 3);
        x.prize(1, 3, 50);
        oracle.prize(1, 3, 50);
    }

    private void read(String text) {
        for (int i = 0; i < text.length(); i += 24) {
            long a = Checks.pack(text, i);
            long b = Checks.pack(text, i + 8);
            long c = Checks.pack(text, i + 16);
            x.feed(a, b, c);
            oracle.feed(a, b, c);
        }
    }

    private void entries(int open) {
        for (int entry : new int[] {0, 1, 20, 38, 39, 40, -1}) {
            build(open);
            e.at(10, "ENTRIES, 40 at most, numbered as told:");
            for (int what = 0; what <= 13; what++) {
                int its = what;
                ask("fact " + what + " of " + entry, s -> s.fact(entry, its), o -> o.fact(entry, its));
            }
            e.at(9, "else N of the first bar of its CLASS whose E is not 0;");
            ask("verdict of " + entry, s -> s.verdict(entry), o -> o.verdict(entry));
            e.at(18, "1 and how many are ahead.");
            for (int judge = NONE; judge < 4; judge++) {
                int its = judge;
                ask("place of " + entry + " by " + judge, s -> s.place(entry, its), o -> o.place(entry, its));
                ask("marks of " + entry + " by " + judge, s -> s.marks(entry, its), o -> o.marks(entry, its));
            }
            for (int what = 0; what <= 1; what++) {
                int its = what;
                e.at(20, "its least and greatest PLACE by any JUDGE told who is not KIN now.");
                ask("span of " + entry, s -> s.span(entry, its), o -> o.span(entry, its));
                e.at(32, "how many other ENTRIES of CLASSES JUDGED would have another PLACE");
                ask("protest against " + entry, s -> s.protest(entry, its), o -> o.protest(entry, its));
            }
        }
    }

    private void classes(int open) {
        build(open);
        for (int kind = -1; kind <= 10; kind++) {
            int its = kind;
            for (int judge = 0; judge < 4; judge++) {
                int by = judge;
                e.at(16, "A JUDGE is KIN to a CLASS if an ENTRY in it STANDS of somebody of their HOUSE.");
                ask("kin " + judge + " to " + kind, s -> s.kin(by, its), o -> o.kin(by, its));
            }
            e.at(24, "the fewest CLASSES told to be put on other TABLES so that none is FULL;");
            ask("moves of " + kind, s -> s.moves(false, 1 + its), o -> o.moves(false, 1 + its));
            e.at(36, "By the PLAN a CLASS told is 1 DROPPED, else 2 SPLIT, else 3 JOINED,");
            ask("plan of " + kind, s -> s.planned(its, 0), o -> o.planned(its, 0));
        }
        for (int table = -1; table <= 3; table++) {
            int its = table;
            e.at(23, "takes FOOT (0 to 9; 1 at first) for each ENTRY that STANDS;");
            ask("table " + table, s -> s.taken(its, false), o -> o.taken(its, false));
            ask("table " + table + " guessed", s -> s.taken(its, true), o -> o.taken(its, true));
        }
        e.at(38, "3: ENTRIES, 4: those that STAND, 5: OUT of these,");
        for (int what = 0; what <= 10; what++) {
            int its = what;
            ask("count " + what, s -> s.count(its), o -> o.count(its));
        }
    }

    private void people(int open) {
        build(open);
        e.at(30, "CUP: of EXHIBITORS told who did not WIN last year and have POINTS those with the most,");
        ask("cup", VillageShow::cup, Oracle::cup);
        for (int who = -1; who <= 10; who++) {
            int its = who;
            e.at(29, "POINTS of an EXHIBITOR (house false) or a HOUSE;");
            ask("points of " + who, s -> s.points(false, its), o -> o.points(false, its));
            ask("points of house " + who, s -> s.points(true, its), o -> o.points(true, its));
            e.at(33, "MONEY of an EXHIBITOR");
            ask("money of " + who, s -> s.money(its), o -> o.money(its));
            e.at(34, "of their PIECES that are in no ENTRY that STANDS (10 at most),");
            ask("sets of " + who, s -> s.sets(its, 0, 9, 0), o -> o.sets(its, 0, 9, 0));
            e.at(31, "(3 at most that have ENTRIES that STAND and are not OUT, 5 such ENTRIES each at most)");
            if (dueOf(o -> o.can(its)) != Oracle.TOO_DEAR) {
                ask("can " + who, s -> s.can(its), o -> o.can(its));
            }
        }
    }
}
