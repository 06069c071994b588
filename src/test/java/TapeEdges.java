/** The edges of the tape: what comes on it, what does not, when it is full, and when it is empty again. */
final class TapeEdges {
    private TapeEdges() {
    }

    static void run(Edges e) {
        signs(e);
        order(e);
        behind(e);
        full(e);
        reading(e);
    }

    private static long at(int sign, int place) {
        return (long) sign << 56 - 8 * place;
    }

    private static int feedOne(VillageShow x, int sign, int place) {
        long signs = at(sign, place % 8);
        return x.feed(place / 8 == 0 ? signs : 0, place / 8 == 1 ? signs : 0, place / 8 == 2 ? signs : 0);
    }

    private static void signs(Edges e) {
        e.at(4, "others than 10 and 32 .. 126, and what is beyond 1,000, are left out");
        for (int place = 0; place < 24; place++) {
            VillageShow x = new VillageShow();
            int kept = 0;
            for (int sign = 0; sign < 256; sign++) {
                kept += sign == 10 || (sign >= 32 && sign <= 126) ? 1 : 0;
                e.due("the byte " + sign + " at " + place, feedOne(x, sign, place), kept);
            }
            e.due("kept at " + place, x.count(9), 96);
        }
        VillageShow x = new VillageShow();
        e.due("nothing but 0", x.feed(0, 0, 0), 0);
        e.due("nothing but 255", x.feed(-1, -1, -1), 0);
        e.due("the least longs, 128 and 0", x.feed(Long.MIN_VALUE, Long.MIN_VALUE, Long.MIN_VALUE), 0);
        e.due("the greatest longs, 127 and 255", x.feed(Long.MAX_VALUE, Long.MAX_VALUE, Long.MAX_VALUE), 0);
        e.due("what is left out leaves no gap", x.feed(0x6d006180ff72007fL, 0x6b09731f20003102L, 0x3b00000000000000L), 8);
        e.due("it is marks 1;", x.schedule(0), 0);
        e.at(4, "The TAPE has at most 1,000 signs, 10 and 32 .. 126;");
        for (int sign : new int[] {9, 11, 31, 127, 128, 160, 255}) {
            e.due("not " + sign, feedOne(new VillageShow(), sign, 0), 0);
        }
        for (int sign : new int[] {10, 32, 33, 125, 126}) {
            e.due("but " + sign, feedOne(new VillageShow(), sign, 23), 1);
        }
    }

    private static void order(Edges e) {
        e.at(4, "the bytes of a, b, c, of each the highest first");
        for (int place = 0; place < 24; place++) {
            VillageShow x = new VillageShow();
            long[] abc = {0x2020202020202020L, 0x2020202020202020L, 0x2020202020202020L};
            abc[place / 8] = abc[place / 8] & ~at(255, place % 8) | at(';', place % 8);
            e.due("24 signs", x.feed(abc[0], abc[1], abc[2]), 24);
            e.due("the ; stands at " + place, x.book(), 1 + 16 * place);
        }
        VillageShow x = new VillageShow();
        x.exhibitor(0, 0, 1, false);
        x.piece(0, 0, 2, 1, 1);
        x.judge(0, 0);
        e.due("want 1 kind 2;marks 345;", x.feed(0x77616e742031206bL, 0x696e6420323b6d61L, 0x726b73203334353bL), 24);
        e.due("it is read", x.schedule(0), 0);
        x.entry(0, 0, 1, 0);
        e.due("and in that order", x.marks(0, 0), 345);
        e.due("not out", x.verdict(0), Edges.NONE);
    }

    private static void behind(Edges e) {
        e.at(4, "Up to 24 signs come behind the TAPE");
        VillageShow x = new VillageShow();
        e.due("one", feedOne(x, 'm', 23), 1);
        e.due("behind it", feedOne(x, 'a', 0), 2);
        e.due("none", x.feed(0, 0, 0), 2);
        e.due("24 more", Checks.feed(x, "rks 1;tie 2;            "), 26);
        e.due("all is one text", x.schedule(0), 0);
        e.at(4, "how many there are");
        e.due("none are there", x.feed(0, 0, 0), 0);
        for (int many = 0; many <= 24; many++) {
            VillageShow y = new VillageShow();
            e.due(many + " signs", Checks.feed(y, "x".repeat(many)), many);
            e.due(many + " signs again, that is on the tape", Checks.feed(y, "x".repeat(many)), 2L * many);
            e.due("counted", y.count(9), 2L * many);
        }
    }

    private static void full(Edges e) {
        e.at(4, "what is beyond 1,000");
        VillageShow x = new VillageShow();
        Checks.feed(x, " ".repeat(999));
        e.due("999", x.count(9), 999);
        e.due("two more, one has room", x.feed(0x4142000000000000L, 0, 0), 1000);
        e.due("1,000", x.count(9), 1000);
        e.due("none has room", x.feed(0x4300000000000000L, -1, 0x44L), 1000);
        e.due("nothing comes", x.feed(0, 0, 0), 1000);
        e.due("the A is the last", x.book(), 1 + 16 * 999);
        e.due("it is empty", x.count(9), 0);

        VillageShow y = new VillageShow();
        Checks.feed(y, " ".repeat(991));
        e.due("9 have room of 24", Checks.feed(y, "marks 1; marks 2; marks "), 1000);
        e.due("the first 9", y.schedule(0), 0);

        VillageShow z = new VillageShow();
        Checks.feed(z, " ".repeat(997));
        e.due("bytes left out take no room", z.feed(0x0141024203430444L, 0, 0), 1000);
        e.due("A, B and C", z.schedule(0), 1 + 16 * 997);

        VillageShow w = new VillageShow();
        e.due("1,000 at once", Checks.feed(w, "marks 1;" + " ".repeat(992)), 1000);
        e.due("are read", w.schedule(9), 0);
        e.due("1,000 without an end", Checks.feed(w, "marks 1" + "\n".repeat(993)), 1000);
        e.due("the end is at 1,000", w.schedule(9), 1 + 16 * 1000);
        e.due("1,000 blanks", Checks.feed(w, " \n".repeat(500)), 1000);
        e.due("are an empty text", w.schedule(9), 0);
        e.due("a text one too long", Checks.feed(w, " ".repeat(993) + "marks 1;"), 1000);
        e.due("has lost its last sign", w.schedule(9), 1 + 16 * 1000);
    }

    /** As the schedule of no class, of class 0, of class 9, as the book, or as the plan. */
    private static int readBy(VillageShow x, int reader) {
        return reader == 0 ? x.schedule(-1) : reader == 1 ? x.schedule(0) : reader == 2 ? x.schedule(9)
            : reader == 3 ? x.book() : x.plan();
    }

    private static void reading(Edges e) {
        e.at(5, "what reads it takes it: it is empty then.");
        String[] texts = {"", " ", "bar 1 when 1;", "x", "bar 100 when 1;"};
        for (String text : texts) {
            for (int reader = 0; reader < 5; reader++) {
                VillageShow x = new VillageShow();
                Checks.feed(x, text);
                e.due("it is full", x.count(9), text.length());
                readBy(x, reader);
                e.due("empty after reader " + reader + " of " + text, x.count(9), 0);
                e.due("the next one starts anew", Checks.feed(x, "bar 2 when 0;"), 13);
                e.due("and is read alone", x.book(), 0);
                e.due("so there is one bar", x.count(8), 1);
            }
        }
        e.at(6, "what reads it takes it: it is empty then.");
        VillageShow x = new VillageShow();
        e.due("a book", Checks.book(x, "bar 1 when 1;"), 0);
        e.due("an empty tape is an empty book", x.book(), 0);
        e.due("without bars", x.count(8), 0);
        e.at(7, "what reads it takes it: it is empty then.");
        Checks.schedule(x, 0, "");
        e.due("a plan", Checks.plan(x, "drop when 1;"), 0);
        e.due("drops", x.planned(0, 0), 1);
        e.due("an empty tape is an empty plan", x.plan(), 0);
        e.due("drops no more", x.planned(0, 0), 0);
    }
}
