/** The edges of exhibitors, pieces and entries: promises 1 to 3 and 8 to 13. */
final class EntryEdges {
    private static final int NONE = VillageShow.NONE;

    private EntryEdges() {
    }

    static void run(Edges e) {
        newObject(e);
        lastCall(e);
        exhibitors(e);
        exhibitorAgain(e);
        pieces(e);
        piecesInEntries(e);
        entryRefused(e);
        entryPieces(e);
        entryFull(e);
        entryNumbers(e);
        verdictOrder(e);
        verdictWant(e);
        verdictRefused(e);
        factLimits(e);
        factEntries(e);
        factRefused(e);
        clashAges(e);
        clashModel(e);
        clashRefused(e);
        strike(e);
        lost(e);
    }

    static long bit(int piece) {
        return 1L << piece;
    }

    /** One exhibitor, of house 0 and age 20, who has all 40 pieces, each of kind 1, size 10 and grade 5; class 0. */
    private static VillageShow garden() {
        VillageShow x = new VillageShow();
        x.exhibitor(0, 0, 20, false);
        for (int piece = 0; piece < 40; piece++) {
            x.piece(piece, 0, 1, 10, 5);
        }
        Checks.schedule(x, 0, "");
        return x;
    }

    // ---- 1

    private static void newObject(Edges e) {
        e.at(1, "Nobody, no CLASS, an empty BOOK.");
        VillageShow other = Sample.show();
        VillageShow x = new VillageShow();
        for (int what = 0; what <= 10; what++) {
            e.due("count " + what, x.count(what), 0);
        }
        for (int who = 0; who < 10; who++) {
            int its = who;
            e.due("no points of " + who, x.points(false, who), NONE);
            e.due("no chance of " + who, x.can(who), NONE);
            e.refused("no money of " + who, () -> x.money(its));
            e.no("no piece of " + who, x.piece(0, who, 0, 1, 0));
            e.due("class " + who + " has no clash", x.clash(who, 0), NONE);
            e.due("class " + who + " is not planned", x.planned(who, 0), NONE);
            e.due("class " + who + " has no table", x.moves(false, 1 + who), NONE);
            e.due("class " + who + " has no judge", x.round(1 + who), NONE);
            e.no("class " + who + " cannot be laid", x.lay(who, 0, 1));
            e.no("class " + who + " cannot be judged", x.judged(who, NONE));
            e.due("class " + who + " takes no entry", x.entry(who, 0, 1, 0), NONE);
        }
        for (int judge = 0; judge < 4; judge++) {
            e.no("no judge " + judge, x.lean(judge, 0, 0));
            e.no("no mark " + judge, x.mark(judge, true));
        }
        e.due("all tables hold nothing", x.moves(false, 0), 0);
        e.due("nobody walks", x.round(0), 0);
        e.due("no cup", x.cup(), 0);
        for (int house = 0; house < 6; house++) {
            e.due("no points of house " + house, x.points(true, house), 0);
        }
        e.refused("no entry", () -> x.verdict(0));
        e.due("the other object is another one", other.count(3), 5);
        VillageShow y = garden();
        e.due("an entry", y.entry(0, 0, 1, 0), 0);
        e.due("the book bars nothing", y.verdict(0), NONE);
        e.due("the plan does nothing", y.planned(0, 0), 0);
        e.due("NONE is -1", VillageShow.NONE, -1);
        e.at(1, "The constants: `NONE = -1`: None.");
        e.due("no bar: NONE", y.verdict(0), -1);
    }

    private static void lastCall(Edges e) {
        e.at(1, "An object is used for at most 512 calls after it has been made; what later calls answer is free.");
        VillageShow x = garden();
        int made = 1 + 40 + 2 + 1;
        e.due("call " + made, x.entry(0, 0, 1, 9), 0);
        for (; made < 510; made += 2) {
            e.yes("a mark is laid", x.mark(made / 2 % 4, false));
            e.yes("and gone back to", x.mark(made / 2 % 4, true));
        }
        e.yes("call 511", x.lost(0, 9));
        e.due("call 512", x.count(10), 9);
    }

    // ---- 2

    private static void exhibitors(Edges e) {
        e.at(2, "EXHIBITORS 0 to 9: a HOUSE (0 to 5), an AGE (1 to 99), whether they WON last year.");
        VillageShow x = new VillageShow();
        for (int who = 0; who < 10; who++) {
            e.due("so many", x.count(0), who);
            e.yes("exhibitor " + who, x.exhibitor(who, who % 6, who == 0 ? 1 : 11 * who, who % 2 == 1));
            e.due("is told", x.points(false, who), 0);
            e.yes("has a piece", x.piece(who, who, 0, 1, 0));
            Checks.schedule(x, who, "");
            e.due("has an entry", x.entry(who, who, bit(who), 0), who);
            e.due("its age", x.fact(who, 7), who == 0 ? 1 : 11 * who);
            e.due("its house", x.fact(who, 8), who % 6);
            e.due("whether it won", x.fact(who, 9), who % 2);
        }
        e.due("all ten", x.count(0), 10);
        e.at(2, "true; false: others.");
        for (int who : Edges.outside(0, 9)) {
            e.declines("exhibitor " + who, y -> y.exhibitor(who, 1, 50, false));
        }
        for (int house : Edges.outside(0, 5)) {
            e.declines("house " + house + " of a new one", y -> y.exhibitor(5, house, 50, false));
            e.declines("house " + house + " of one told", y -> y.exhibitor(0, house, 50, true));
        }
        for (int age : Edges.outside(1, 99)) {
            e.declines("age " + age + " of a new one", y -> y.exhibitor(5, 1, age, false));
            e.declines("age " + age + " of one told", y -> y.exhibitor(9, 1, age, true));
        }
        e.declines("all wrong", y -> y.exhibitor(-1, -1, -1, true));
    }

    private static void exhibitorAgain(Edges e) {
        e.at(2, "An EXHIBITOR (in place of what was told)");
        VillageShow x = Sample.show();
        e.due("exhibitors 1 and 9 have the cup", x.cup(), 1 << 1 | 1 << 9);
        e.yes("house, age and won are others", x.exhibitor(1, 3, 1, true));
        e.due("four exhibitors", x.count(0), 4);
        e.due("age", x.fact(1, 7), 1);
        e.due("house", x.fact(1, 8), 3);
        e.due("won", x.fact(1, 9), 1);
        e.due("its entry stands", x.fact(1, 13), 1);
        e.due("in the cup no more", x.cup(), 1 << 9);
        e.due("its points go to the other house", x.points(true, 3), 6);
        e.due("not to the former one", x.points(true, 1), 0);
        e.due("its piece is its piece", x.entry(3, 1, bit(6), 0), 5);
        e.yes("as it was", x.exhibitor(1, 1, 8, false));
        e.due("in the cup", x.cup(), 1 << 1 | 1 << 9);
        e.yes("the same again", x.exhibitor(1, 1, 8, false));
        e.due("four exhibitors", x.count(0), 4);
    }

    // ---- 3

    private static void pieces(Edges e) {
        e.at(3, "PIECES 0 to 39: an EXHIBITOR's (told), a KIND (0 to 9), a SIZE (1 to 99), a GRADE (0 to 9).");
        VillageShow x = new VillageShow();
        x.exhibitor(0, 0, 1, false);
        x.exhibitor(9, 0, 1, false);
        Checks.schedule(x, 0, "want 1 kind 0;");
        Checks.schedule(x, 9, "want 1 kind 9;");
        for (int piece = 0; piece < 40; piece++) {
            e.due("so many", x.count(1), piece);
            int kind = piece % 2 == 0 ? 0 : 9;
            e.yes("piece " + piece, x.piece(piece, kind, kind, piece % 3 == 0 ? 1 : 99, piece % 5 == 0 ? 0 : 9));
            e.due("is an entry", x.entry(kind, kind, bit(piece), 0), piece);
            e.due("kind", x.verdict(piece), NONE);
            e.due("size", x.fact(piece, 3), piece % 3 == 0 ? 1 : 99);
            e.due("grade", x.fact(piece, 5), piece % 5 == 0 ? 0 : 9);
        }
        e.due("all 40", x.count(1), 40);
        e.at(3, "true; false: others, it is in an ENTRY that STANDS.");
        for (int piece : Edges.outside(0, 39)) {
            e.declines("piece " + piece, y -> y.piece(piece, 0, 0, 1, 0));
        }
        for (int who : new int[] {-1, 3, 8, 10, Edges.LOW, Edges.HIGH}) {
            e.declines("of exhibitor " + who, y -> y.piece(20, who, 0, 1, 0));
            e.declines("told, of exhibitor " + who, y -> y.piece(2, who, 0, 1, 0));
        }
        for (int kind : Edges.outside(0, 9)) {
            e.declines("kind " + kind, y -> y.piece(2, 0, kind, 1, 0));
        }
        for (int size : Edges.outside(1, 99)) {
            e.declines("size " + size, y -> y.piece(2, 0, 1, size, 0));
        }
        for (int grade : Edges.outside(0, 9)) {
            e.declines("grade " + grade, y -> y.piece(2, 0, 1, 1, grade));
        }
        for (int piece : new int[] {0, 1, 4, 5, 8, 9, 37}) {
            e.declines("in an entry that stands: " + piece, y -> y.piece(piece, 0, 1, 1, 0));
        }
    }

    private static void piecesInEntries(Edges e) {
        e.at(3, "A PIECE (in place of what was told)");
        VillageShow x = Sample.show();
        e.yes("in no entry", x.piece(2, 0, 9, 99, 9));
        e.due("no more pieces", x.count(1), 16);
        e.due("its entry", x.entry(9, 0, bit(2), 0), 5);
        e.due("its size", x.fact(5, 3), 99);
        e.yes("in an entry that is struck", x.piece(36, 1, 2, 7, 3));
        e.due("the struck entry shows it", x.fact(3, 3), 7);
        e.due("it is the other's now", x.entry(9, 9, bit(36), 0), NONE);
        e.due("it is", x.entry(9, 1, bit(36), 0), 6);
        e.no("in an entry that stands now", x.piece(36, 1, 2, 7, 3));
        x.strike(6);
        e.yes("struck as well", x.piece(36, 9, 2, 8, 3));
        e.due("both show it", x.fact(3, 3) + x.fact(6, 3), 16);
        e.yes("back to where it stood", x.mark(1, true));
        e.no("it stands again", x.piece(36, 1, 2, 7, 3));
        e.due("the piece is as told last", x.fact(3, 3), 8);

        VillageShow y = garden();
        y.entry(0, 0, bit(39), 0);
        e.no("the last piece", y.piece(39, 0, 1, 1, 1));
        e.yes("the one before", y.piece(38, 0, 1, 1, 1));
        y.entry(0, 0, bit(0), 0);
        e.no("the first piece", y.piece(0, 0, 1, 1, 1));
        e.yes("the one behind", y.piece(1, 0, 1, 1, 1));
    }

    // ---- 8

    private static void entryRefused(Edges e) {
        e.at(8, "of a CLASS told, by an EXHIBITOR,");
        e.due("class, exhibitor and piece are told", Sample.show().entry(3, 0, bit(2), 0), 5);
        for (int kind : new int[] {-1, 1, 8, 10, Edges.LOW, Edges.HIGH}) {
            e.none("class " + kind, x -> x.entry(kind, 0, bit(2), 0));
        }
        for (int who : new int[] {-1, 3, 8, 10, Edges.LOW, Edges.HIGH}) {
            e.none("exhibitor " + who, x -> x.entry(3, who, bit(2), 0));
        }
        e.at(8, "with so many JARS (0 to 9).");
        for (int jars = 0; jars <= 9; jars++) {
            VillageShow x = Sample.show();
            e.due(jars + " jars", x.entry(3, 0, bit(2), jars), 5);
            e.yes("all can be lost", x.lost(5, jars));
            e.no("one more can not", x.lost(5, jars + 1));
        }
        for (int jars : Edges.outside(0, 9)) {
            e.none(jars + " jars", x -> x.entry(3, 0, bit(2), jars));
        }
        e.at(8, "NONE: others (bits of PIECES that are not theirs, or in another ENTRY), 40 are there.");
        e.none("no piece", x -> x.entry(3, 0, 0, 0));
        e.none("another's", x -> x.entry(3, 0, bit(6), 0));
        e.none("theirs and another's", x -> x.entry(3, 0, bit(2) | bit(6), 0));
        e.none("not told", x -> x.entry(3, 0, bit(12), 0));
        e.none("theirs and one not told", x -> x.entry(3, 0, bit(2) | bit(12), 0));
        for (int piece = 40; piece < 64; piece++) {
            long wrong = bit(piece);
            e.none("bit " + piece, x -> x.entry(3, 0, wrong, 0));
            e.none("bit 2 and bit " + piece, x -> x.entry(3, 0, wrong | bit(2), 0));
        }
        e.none("all bits", x -> x.entry(3, 0, -1, 0));
        e.none("the least long", x -> x.entry(3, 0, Long.MIN_VALUE, 0));
        e.none("the greatest long", x -> x.entry(3, 0, Long.MAX_VALUE, 0));
        e.none("in an entry of the class", x -> x.entry(0, 0, bit(0), 0));
        e.none("in an entry of another class", x -> x.entry(3, 0, bit(1), 0));
        e.none("one that is free, one in an entry", x -> x.entry(3, 0, bit(1) | bit(2), 0));
        e.due("in one that is struck", Sample.show().entry(3, 9, bit(36), 0), 5);
        e.none("in one that is struck, one that stands", x -> x.entry(3, 9, bit(36) | bit(37), 0));
    }

    private static void entryPieces(Edges e) {
        e.at(8, "of 1 to 8 PIECES of theirs that are in no other ENTRY that STANDS,");
        for (int many = 0; many <= 40; many++) {
            VillageShow x = garden();
            long low = (1L << many) - 1;
            e.due(many + " pieces", x.entry(0, 0, low, 0), many >= 1 && many <= 8 ? 0 : NONE);
            e.due(many + " pieces, the last ones", garden().entry(0, 0, low << 40 - many, 0),
                many >= 1 && many <= 8 ? 0 : NONE);
            e.due("entries", x.count(3), many >= 1 && many <= 8 ? 1 : 0);
        }
        VillageShow x = garden();
        e.due("8 pieces far apart", x.entry(0, 0, 0x8421084211L & ~bit(10), 0), NONE);
        e.due("8 pieces far apart", x.entry(0, 0, bit(0) | bit(5) | bit(11) | bit(16) | bit(22) | bit(27) | bit(33)
            | bit(39), 0), 0);
        e.due("8", x.fact(0, 0), 8);
        e.due("one of them again", x.entry(0, 0, bit(39), 0), NONE);
        x.strike(0);
        e.due("struck: free again", x.entry(0, 0, bit(39), 0), 1);
        e.due("but only once", x.entry(0, 0, bit(39) | bit(0), 0), NONE);
        e.due("the others are free", x.entry(0, 0, bit(0), 0), 2);
    }

    private static void entryFull(Edges e) {
        e.at(8, "ENTRIES, 40 at most, numbered as told:");
        VillageShow x = garden();
        for (int entry = 0; entry < 39; entry++) {
            e.due("entry", x.entry(0, 0, bit(entry), entry % 10), entry);
        }
        e.due("the last one", x.entry(0, 0, bit(39), 9), 39);
        e.due("40", x.count(3), 40);
        e.due("all stand", x.count(4), 40);
        x.strike(39);
        x.strike(0);
        e.due("40 are there, two are struck", x.entry(0, 0, bit(39), 0), NONE);
        e.due("40 are there, two are struck", x.entry(0, 0, bit(0), 0), NONE);
        e.due("40", x.count(3), 40);
        e.due("38 stand", x.count(4), 38);
        e.due("the last one's entries", x.fact(39, 10), 38);
        e.due("the last one's pieces", x.fact(39, 0), 1);
        e.due("the last one's verdict", x.verdict(39), NONE);
        e.yes("the last one's jars", x.lost(39, 9));
        e.no("not one more", x.lost(39, 10));
        e.due("lost", x.count(10), 9);
    }

    private static void entryNumbers(Edges e) {
        e.at(8, "An ENTRY of PIECES as bits: its number;");
        VillageShow x = garden();
        e.due("the first one", x.entry(0, 0, 3, 0), 0);
        e.due("refused", x.entry(0, 0, 1, 0), NONE);
        e.due("takes no number", x.entry(0, 0, 4, 0), 1);
        x.strike(1);
        e.due("a struck one keeps its number", x.entry(0, 0, 4, 0), 2);
        x.mark(0, false);
        e.due("the next one", x.entry(0, 0, 8, 0), 3);
        x.mark(0, true);
        e.due("gone back: its number is free", x.entry(0, 0, 16, 0), 3);
        e.due("so is the piece", x.entry(0, 0, 8, 0), 4);
        e.at(8, "An ENTRY STANDS till it is STRUCK.");
        e.due("it stands", x.fact(0, 13), 1);
        e.yes("is struck", x.strike(0));
        e.due("stands no more", x.fact(0, 13), 0);
        Checks.book(x, "bar 1 when 1;");
        e.due("one that is out stands", x.fact(2, 13), 1);
        VillageShow y = garden();
        for (int entry = 0; entry < 40; entry++) {
            y.entry(0, 0, bit(entry), 0);
        }
        for (int entry = 0; entry < 40; entry++) {
            e.due("it stands", y.fact(entry, 13), 1);
            y.strike(entry);
            e.due("it does not", y.fact(entry, 13), 0);
            e.due("so many stand", y.count(4), 39 - entry);
        }
        e.due("no piece is in an entry that stands", y.piece(39, 0, 1, 1, 1) && y.piece(0, 0, 1, 1, 1) ? 1 : 0, 1);
    }

    // ---- 9

    private static void verdictOrder(Edges e) {
        e.at(9, "else N of the first bar of its CLASS whose E is not 0; else N of the first one of the BOOK.");
        for (int of = 0; of < 6; of++) {
            VillageShow x = garden();
            StringBuilder text = new StringBuilder();
            for (int i = 0; i < 6; i++) {
                text.append("bar ").append(10 + i).append(" when ").append(i < of ? "0" : "0-1").append(";");
            }
            x.entry(0, 0, 1, 0);
            Checks.book(x, text.toString());
            e.due("bar " + of + " of the book", x.verdict(0), 10 + of);
            Checks.schedule(x, 0, text.toString().replace("bar 1", "bar 2"));
            e.due("bar " + of + " of the class", x.verdict(0), 20 + of);
            Checks.schedule(x, 0, "bar 30 when 0;".repeat(6));
            e.due("bar " + of + " of the book", x.verdict(0), 10 + of);
            Checks.book(x, "bar 30 when 0;".repeat(6));
            e.due("no bar", x.verdict(0), NONE);
        }
        for (int bars = 0; bars <= 6; bars++) {
            VillageShow x = garden();
            x.entry(0, 0, 1, 0);
            Checks.book(x, "bar 8 when 0;".repeat(bars));
            Checks.schedule(x, 0, "marks 1;tie 1;" + "bar 9 when 0;".repeat(bars));
            e.due("marks and tie are no bars behind " + bars, x.verdict(0), NONE);
        }
        VillageShow x = garden();
        x.entry(0, 0, 1, 0);
        Checks.schedule(x, 0, "bar 0 when 1;");
        e.due("word 0 is a word", x.verdict(0), 0);
        e.due("out", x.count(5), 1);
        Checks.schedule(x, 0, "bar 99 when 1;");
        e.due("word 99", x.verdict(0), 99);
        Checks.schedule(x, 0, "bar 7 when 0-9999;bar 0 when 1;");
        e.due("below 0 is not 0", x.verdict(0), 7);
        Checks.schedule(x, 0, "");
        Checks.book(x, "bar 0 when 1;bar 5 when 1;");
        e.due("word 0 of the book", x.verdict(0), 0);
        x.book();
        e.due("an empty book", x.verdict(0), NONE);
        e.due("not out", x.count(5), 0);
    }

    private static void verdictWant(Edges e) {
        e.at(9, "An ENTRY is OUT by a WORD: 100 if there is want and it has another number of PIECES, or odd ones;");
        for (int want = 1; want <= 8; want++) {
            VillageShow x = garden();
            Checks.schedule(x, 0, "bar 5 when 1;want " + want + " kind 1;");
            for (int many = 1; many <= 8; many++) {
                int entry = x.entry(0, 0, (1L << many) - 1, 0);
                e.due(many + " of " + want, x.verdict(entry), many == want ? 5 : 100);
                x.strike(entry);
            }
        }
        for (int odd = 0; odd <= 8; odd++) {
            VillageShow x = garden();
            Checks.schedule(x, 0, "want 8 kind 1;");
            Checks.book(x, "bar 3 when 1<0;");
            for (int piece = 0; piece < odd; piece++) {
                x.piece(7 - piece, 0, piece % 2 == 0 ? 0 : 2, 10, 5);
            }
            x.entry(0, 0, 255, 0);
            e.due(odd + " odd ones", x.verdict(0), odd == 0 ? NONE : 100);
            e.due("the fact", x.fact(0, 2), odd);
            Checks.schedule(x, 0, "");
            e.due("without want", x.verdict(0), NONE);
        }
        for (int kind = 0; kind <= 9; kind++) {
            VillageShow x = garden();
            Checks.schedule(x, 0, "want 1 kind " + kind + ";");
            for (int other = 0; other <= 9; other++) {
                x.piece(other, 0, other, 10, 5);
                int entry = x.entry(0, 0, bit(other), 0);
                e.due("kind " + other + ", wanted " + kind, x.verdict(entry), other == kind ? NONE : 100);
            }
        }
    }

    private static void verdictRefused(Edges e) {
        e.at(9, "NONE: it is not; NoSuchElementException: none such.");
        for (int entry : new int[] {-1, 5, 6, 39, 40, 41, 63, 64, Edges.LOW, Edges.HIGH}) {
            e.refuses("entry " + entry, x -> x.verdict(entry));
        }
        e.leaves("not out", NONE, x -> x.verdict(0));
        VillageShow x = garden();
        e.refused("no entry at all", () -> x.verdict(0));
        x.entry(0, 0, 1, 0);
        x.mark(0, false);
        x.entry(0, 0, 2, 0);
        x.mark(0, true);
        e.refused("it is gone", () -> x.verdict(1));
        e.refused("its facts, too", () -> x.fact(1, 0));
        e.due("the one before is not", x.verdict(0), NONE);
        e.at(9, "The WORD by which an ENTRY (a STRUCK one, too, here and below) is OUT;");
        Checks.schedule(x, 0, "bar 8 when entries=0;bar 9 when 0<entries;");
        e.due("one entry", x.verdict(0), 9);
        x.strike(0);
        e.due("struck: none", x.verdict(0), 8);
        VillageShow y = garden();
        for (int entry = 0; entry < 40; entry++) {
            y.entry(0, 0, bit(entry), 0);
        }
        Checks.schedule(y, 0, "bar 4 when entries=40;");
        e.due("the last of 40", y.verdict(39), 4);
        e.refused("a 41st", () -> y.verdict(40));
        e.due("all are out", y.count(5), 40);
    }

    // ---- 10

    private static void facts(Edges e, VillageShow x, int entry, int... due) {
        for (int what = 0; what < due.length; what++) {
            e.due("fact " + what + " of entry " + entry, x.fact(entry, what), due[what]);
        }
    }

    private static void factLimits(Edges e) {
        e.at(10, "Facts of an ENTRY: pieces, kinds (how many different KINDS), odd (PIECES not of the KIND wanted; 0 without"
            + " want), size (the sum of SIZES), spread (the greatest SIZE less the least), grade (the sum of GRADES),"
            + " worst (the least GRADE), age, house, won, entries (that STAND of this EXHIBITOR in this CLASS).");
        VillageShow x = new VillageShow();
        x.exhibitor(0, 0, 1, false);
        x.exhibitor(9, 5, 99, true);
        for (int piece = 0; piece < 8; piece++) {
            x.piece(piece, 0, 0, 1, 0);
            x.piece(32 + piece, 9, 2 + piece, 99, 9);
        }
        Checks.schedule(x, 0, "want 1 kind 0;");
        Checks.schedule(x, 9, "want 1 kind 0;");
        x.entry(0, 0, bit(0), 0);
        facts(e, x, 0, 1, 1, 0, 1, 0, 0, 0, 1, 0, 0, 1, 0, 0, 1);
        x.entry(9, 9, 0xffL << 32, 0);
        facts(e, x, 1, 8, 8, 8, 792, 0, 72, 9, 99, 5, 1, 1, 9, 9, 1);
        Checks.schedule(x, 9, "");
        e.due("none is odd without want", x.fact(1, 2), 0);
        Checks.schedule(x, 9, "want 8 kind 9;");
        e.due("seven are odd", x.fact(1, 2), 7);
        x.strike(1);
        facts(e, x, 1, 8, 8, 7, 792, 0, 72, 9, 99, 5, 1, 0, 9, 9, 0);
        x.piece(39, 9, 2, 1, 0);
        facts(e, x, 1, 8, 7, 8, 694, 98, 63, 0, 99, 5, 1, 0, 9, 9, 0);
        x.piece(1, 0, 9, 99, 9);
        x.piece(2, 0, 5, 50, 4);
        x.entry(0, 0, 6, 0);
        facts(e, x, 2, 2, 2, 2, 149, 49, 13, 4, 1, 0, 0, 2, 0, 0, 1);
        facts(e, x, 0, 1, 1, 0, 1, 0, 0, 0, 1, 0, 0, 2, 0, 0, 1);
        e.at(10, "11: its CLASS, 12: its EXHIBITOR, 13: 1 if it STANDS.");
        for (int kind = 0; kind <= 9; kind++) {
            VillageShow y = new VillageShow();
            y.exhibitor(kind, 0, 1, false);
            y.piece(0, kind, 0, 1, 0);
            Checks.schedule(y, 9 - kind, "");
            y.entry(9 - kind, kind, 1, 0);
            facts(e, y, 0, 1, 1, 0, 1, 0, 0, 0, 1, 0, 0, 1, 9 - kind, kind, 1);
        }
    }

    private static void factEntries(Edges e) {
        e.at(10, "entries (that STAND of this EXHIBITOR in this CLASS)");
        VillageShow x = new VillageShow();
        Checks.schedule(x, 0, "bar 1 when 3<entries;");
        Checks.schedule(x, 1, "");
        for (int who = 0; who < 2; who++) {
            x.exhibitor(who, 0, 1, false);
            for (int piece = 0; piece < 10; piece++) {
                x.piece(10 * who + piece, who, 0, 1, 0);
            }
        }
        for (int many = 1; many <= 5; many++) {
            int entry = x.entry(0, 0, bit(many), 0);
            e.due("one more", x.fact(entry, 10), many);
            e.due("of the first one, too", x.fact(0, 10), many);
            e.due("three are not out", x.verdict(entry), many <= 3 ? NONE : 1);
            e.due("nor the first", x.verdict(0), many <= 3 ? NONE : 1);
        }
        int other = x.entry(0, 1, bit(10), 0);
        e.due("another's", x.fact(other, 10), 1);
        int elsewhere = x.entry(1, 0, bit(9), 0);
        e.due("in another class", x.fact(elsewhere, 10), 1);
        e.due("the five are five", x.fact(0, 10), 5);
        x.strike(0);
        e.due("four stand, says the struck one", x.fact(0, 10), 4);
        e.due("four stand", x.fact(1, 10), 4);
        x.strike(elsewhere);
        e.due("none stands", x.fact(elsewhere, 10), 0);
    }

    private static void factRefused(Edges e) {
        e.at(10, "A fact of an ENTRY, what 0: pieces, 1: kinds, 2: odd, 3: size, 4: spread, 5: grade, 6: worst, 7: age,"
            + " 8: house, 9: won, 10: entries,");
        for (int what = 0; what <= 13; what++) {
            int its = what;
            e.leaves("what " + what, new int[] {2, 1, 0, 22, 2, 3, 1, 40, 0, 0, 1, 0, 0, 1}[what], x -> x.fact(0, its));
        }
        e.at(10, "NoSuchElementException: none such.");
        for (int what : Edges.outside(0, 13)) {
            e.refuses("what " + what, x -> x.fact(0, what));
        }
        for (int entry : new int[] {-1, 5, 6, 39, 40, 63, 64, Edges.LOW, Edges.HIGH}) {
            e.refuses("entry " + entry, x -> x.fact(entry, 0));
            e.refuses("entry " + entry + ", 13", x -> x.fact(entry, 13));
        }
        e.leaves("of a struck one", 0, x -> x.fact(3, 13));
    }

    // ---- 11

    private static void clash(Edges e, String bars, int ages, int word) {
        VillageShow x = new VillageShow();
        Checks.schedule(x, 0, "want 2 kind 3;" + bars);
        e.due("ages by " + bars, x.clash(0, 0), ages);
        e.due("the word by " + bars, x.clash(0, 1), word);
        VillageShow y = new VillageShow();
        Checks.schedule(y, 9, "want 2 kind 3;");
        Checks.book(y, bars);
        e.due("ages by the book's " + bars, y.clash(9, 0), ages);
        e.due("the word by the book's " + bars, y.clash(9, 1), word);
    }

    private static void clashAges(Edges e) {
        e.at(11, "CLASH of a CLASS with want: the AGES (1 to 99) at which");
        clash(e, "", 0, NONE);
        clash(e, "bar 5 when 0;", 0, NONE);
        clash(e, "bar 5 when 1;", 99, 5);
        clash(e, "bar 0 when 1;", 99, 0);
        clash(e, "bar 99 when 1;", 99, 99);
        clash(e, "bar 5 when age=1;", 1, 5);
        clash(e, "bar 5 when age=99;", 1, 5);
        clash(e, "bar 5 when age=0;", 0, NONE);
        clash(e, "bar 5 when age=100;", 0, NONE);
        clash(e, "bar 5 when age<2;", 1, 5);
        clash(e, "bar 5 when 98<age;", 1, 5);
        clash(e, "bar 5 when 99<age;", 0, NONE);
        clash(e, "bar 5 when age<1;", 0, NONE);
        clash(e, "bar 5 when 1<age;", 98, 5);
        clash(e, "bar 5 when age<99;", 98, 5);
        clash(e, "bar 5 when age=50 or age=20 or age=80;", 3, 5);
        e.at(11, "would be OUT; and the WORD at the first of these.");
        clash(e, "bar 5 when age=2;bar 6 when age=1;", 2, 6);
        clash(e, "bar 5 when age=1;bar 6 when age=1;", 1, 5);
        clash(e, "bar 5 when 97<age;bar 6 when 98<age;", 2, 5);
        clash(e, "bar 5 when 98<age;bar 6 when 97<age;", 2, 6);
        clash(e, "bar 5 when 50<age;bar 0 when age=50;", 50, 0);
        clash(e, "bar 1 when 0;bar 2 when 0;bar 3 when 0;bar 4 when 0;bar 5 when 0;bar 6 when age=99;", 1, 6);
        VillageShow x = new VillageShow();
        Checks.schedule(x, 0, "want 1 kind 1;bar 5 when age=3;");
        Checks.book(x, "bar 6 when age=3;bar 7 when age=2;");
        e.due("the class's and the book's", x.clash(0, 0), 2);
        e.due("the book's comes first by age", x.clash(0, 1), 7);
        Checks.book(x, "bar 6 when age=3;bar 7 when age=4;");
        e.due("the class's comes first at its age", x.clash(0, 1), 5);
    }

    private static void clashModel(Edges e) {
        e.at(11, "so many PIECES of this KIND, each of SIZE 50 and GRADE 9, of HOUSE 0, not WON, entries 1,");
        for (int want = 1; want <= 8; want++) {
            String[] facts = {"pieces=" + want, "kinds=1", "odd=0", "size=" + 50 * want, "spread=0", "grade=" + 9 * want,
                "worst=9", "house=0", "won=0", "entries=1"};
            VillageShow x = Sample.show();
            x.book();
            e.due("an empty tape is an empty book", x.book(), 0);
            int other = x.entry(0, 2, bit(10) | bit(11), 0);
            for (String fact : facts) {
                Checks.schedule(x, 9, "want " + want + " kind " + want + ";bar 1 when " + fact + ";");
                e.due("an entry that has odd ones, a spread, house 2 and won", x.verdict(other), 100);
                e.due(fact + " of " + want, x.clash(9, 0), 99);
                Checks.schedule(x, 9, "want " + want + " kind " + want + ";bar 1 when not(" + fact + ");");
                e.due("asked before", x.verdict(other), 100);
                e.due("always " + fact + " of " + want, x.clash(9, 0), 0);
            }
        }
        VillageShow x = new VillageShow();
        x.exhibitor(0, 0, 50, true);
        x.piece(0, 0, 1, 1, 1);
        Checks.schedule(x, 0, "want 1 kind 1;bar 1 when entries=2 or won;");
        x.entry(0, 0, 1, 0);
        e.due("entries that are there play no part", x.clash(0, 0), 0);
    }

    private static void clashRefused(Edges e) {
        e.at(11, "NONE: not told, without want, another what, none (1).");
        for (int kind : new int[] {-1, 1, 8, 10, Edges.LOW, Edges.HIGH}) {
            e.none("class " + kind, x -> x.clash(kind, 0));
            e.none("the word of class " + kind, x -> x.clash(kind, 1));
        }
        e.none("without want", x -> x.clash(3, 0));
        e.none("without want, the word", x -> x.clash(9, 1));
        for (int what : Edges.outside(0, 1)) {
            e.none("what " + what, x -> x.clash(0, what));
        }
        e.leaves("no age", 0, x -> x.clash(0, 0));
        e.none("no age, so no word", x -> x.clash(0, 1));
        e.at(11, "CLASH, what 0: how many AGES, 1: the WORD;");
        VillageShow x = Sample.show();
        x.book();
        e.due("no bar of the book meets it", x.clash(0, 0), 1);
        e.due("but 60", x.clash(0, 1), 9);
        for (int what : Edges.outside(0, 1)) {
            e.due("what " + what + " where there is a word", x.clash(0, what), NONE);
        }
    }

    // ---- 12 and 13

    private static void strike(Edges e) {
        e.at(12, "true; false: it does not STAND.");
        for (int entry : new int[] {-1, 5, 6, 39, 40, 63, 64, 67, Edges.LOW, Edges.HIGH}) {
            e.declines("entry " + entry, x -> x.strike(entry));
        }
        e.declines("struck before", x -> x.strike(3));
        VillageShow x = Sample.show();
        e.at(12, "An ENTRY is STRUCK:");
        e.yes("it stands", x.strike(4));
        e.no("it does not", x.strike(4));
        e.due("five are there", x.count(3), 5);
        e.due("three stand", x.count(4), 3);
        e.due("it does not", x.fact(4, 13), 0);
        e.due("its jars are lost as they were", x.count(10), 4);
        e.due("its class is judged as it was", x.count(6), 2);
        e.yes("the others stand", x.strike(0) && x.strike(1) && x.strike(2));
        e.due("none stands", x.count(4), 0);
        e.no("none", x.strike(0));
        e.due("no cup", x.cup(), 0);
        e.no("a new object has none", new VillageShow().strike(0));
    }

    private static void lost(Edges e) {
        e.at(13, "true; false: none such, more than it has, below 0.");
        for (int entry : new int[] {-1, 5, 6, 39, 40, 63, 64, Edges.LOW, Edges.HIGH}) {
            e.declines("entry " + entry, x -> x.lost(entry, 0));
        }
        int[] jars = {2, 9, 0, 4, 5};
        for (int entry = 0; entry < 5; entry++) {
            int its = entry;
            for (int wrong : new int[] {-1, jars[entry] + 1, jars[entry] + 2, 10, Edges.LOW, Edges.HIGH}) {
                e.declines(wrong + " jars of entry " + entry, x -> x.lost(its, wrong));
            }
            for (int right = 0; right <= jars[entry]; right++) {
                VillageShow x = Sample.show();
                e.yes(right + " of " + jars[entry], x.lost(entry, right));
                e.due("in all", x.count(10), right + (entry == 0 ? 3 : entry == 4 ? 1 : 4));
            }
        }
        e.at(13, "So many JARS of an ENTRY are LOST (in all, in place of what was told):");
        VillageShow x = Sample.show();
        e.yes("all", x.lost(1, 9));
        e.due("in all", x.count(10), 13);
        e.yes("fewer", x.lost(1, 1));
        e.due("in place of what was told", x.count(10), 5);
        e.yes("none", x.lost(1, 0) && x.lost(0, 0) && x.lost(4, 0));
        e.due("in all", x.count(10), 0);
        e.yes("of a struck one, too", x.lost(3, 4));
        e.due("in all", x.count(10), 4);
        VillageShow y = garden();
        for (int entry = 0; entry < 40; entry++) {
            y.entry(0, 0, bit(entry), 9);
            y.lost(entry, 9);
        }
        e.due("of 40 entries", y.count(10), 360);
    }
}
