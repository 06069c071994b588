/** Calls of which two arguments, or more, are wrong at once are refused as those of which one is. */
final class PairEdges {
    private interface Call {
        long on(VillageShow x, int[] a);
    }

    private PairEdges() {
    }

    static void run(Edges e) {
        told(e);
        entries(e);
        judges(e);
        tables(e);
        prizes(e);
        gardens(e);
    }

    /** Of each row the first value is a right one, the others are wrong; every choice with two wrong ones is tried. */
    private static void wrong(Edges e, String name, long due, Call call, int[]... rows) {
        int[] at = new int[rows.length];
        int changed = 0;
        while (changed < rows.length) {
            int[] a = new int[rows.length];
            int bad = 0;
            StringBuilder what = new StringBuilder(name);
            for (int i = 0; i < rows.length; i++) {
                a[i] = rows[i][at[i]];
                bad += at[i] > 0 ? 1 : 0;
                what.append(' ').append(a[i]);
            }
            if (bad > 1 && due == THROWS) {
                e.refuses(what.toString(), x -> call.on(x, a));
            } else if (bad > 1) {
                e.leaves(what.toString(), due, x -> call.on(x, a));
            }
            for (changed = 0; changed < rows.length && ++at[changed] == rows[changed].length; changed++) {
                at[changed] = 0;
            }
        }
    }

    private static final long THROWS = Long.MIN_VALUE;
    private static final long NONE = VillageShow.NONE;

    private static int[] row(int... values) {
        return values;
    }

    private static long so(boolean told) {
        return told ? 1 : 0;
    }

    private static void told(Edges e) {
        e.at(2, "true; false: others.");
        wrong(e, "exhibitor", 0, (x, a) -> so(x.exhibitor(a[0], a[1], a[2], true)),
            row(0, -1, 10), row(1, -1, 6), row(50, 0, 100));
        e.at(3, "true; false: others, it is in an ENTRY that STANDS.");
        wrong(e, "piece", 0, (x, a) -> so(x.piece(a[0], a[1], a[2], a[3], a[4])),
            row(2, -1, 40, 0), row(0, -1, 3, 10), row(1, -1, 10), row(1, 0, 100), row(1, -1, 10));
    }

    private static void entries(Edges e) {
        e.at(8, "NONE: others (bits of PIECES that are not theirs, or in another ENTRY), 40 are there.");
        wrong(e, "entry", NONE, (x, a) -> x.entry(a[0], a[1], a[2], a[3]),
            row(0, 1, -1, 10), row(0, 1, 3, -1, 10), row(4, 0, 1, 16, 1 << 20), row(1, -1, 10));
        e.at(10, "NoSuchElementException: none such.");
        wrong(e, "fact", THROWS, (x, a) -> x.fact(a[0], a[1]), row(0, -1, 5, 40), row(1, -1, 14));
        e.at(11, "NONE: not told, without want, another what, none (1).");
        wrong(e, "clash", NONE, (x, a) -> x.clash(a[0], a[1]), row(0, -1, 1, 3, 10), row(0, -1, 2));
        e.at(13, "true; false: none such, more than it has, below 0.");
        wrong(e, "lost", 0, (x, a) -> so(x.lost(a[0], a[1])), row(0, -1, 5, 40), row(0, -1, 10));
    }

    private static void judges(Edges e) {
        e.at(14, "true; false: others.");
        wrong(e, "judge", 0, (x, a) -> so(x.judge(a[0], a[1])), row(0, -1, 4), row(1, -1, 6));
        e.at(15, "true; false: others, not told.");
        wrong(e, "lean", 0, (x, a) -> so(x.lean(a[0], a[1], a[2])), row(0, -1, 2, 4), row(1, -1, 6), row(1, -10, 10));
        e.at(16, "NONE: not told.");
        wrong(e, "kin", NONE, (x, a) -> x.kin(a[0], a[1]), row(0, -1, 2, 4), row(0, -1, 1, 10));
        e.at(17, "NoSuchElementException: others, not told.");
        wrong(e, "marks", THROWS, (x, a) -> x.marks(a[0], a[1]), row(0, -1, 5, 40), row(0, -1, 2, 4));
        e.at(18, "NONE: others, it does not STAND, is OUT, is not JUDGED.");
        wrong(e, "place", NONE, (x, a) -> x.place(a[0], a[1]), row(0, -1, 3, 5, 40), row(0, -2, 2, 4));
        e.at(19, "true; false: not told, KIN.");
        wrong(e, "judged", 0, (x, a) -> so(x.judged(a[0], a[1])), row(0, -1, 1, 10), row(0, -2, 1, 2, 4));
        e.at(20, "NONE: others, it does not STAND, is OUT, no such JUDGE.");
        wrong(e, "span", NONE, (x, a) -> x.span(a[0], a[1]), row(0, -1, 3, 5, 40), row(0, -1, 2));
    }

    private static void tables(Edges e) {
        e.at(21, "true; false: others.");
        wrong(e, "table", 0, (x, a) -> so(x.table(a[0], a[1])), row(0, -1, 3), row(1, -1, 100));
        e.at(22, "true; false: others, not told.");
        wrong(e, "lay", 0, (x, a) -> so(x.lay(a[0], a[1], a[2])), row(0, -1, 1, 10), row(0, -1, 3), row(1, -1, 10));
    }

    private static void prizes(Edges e) {
        e.at(27, "true; false: others.");
        wrong(e, "prize", 0, (x, a) -> so(x.prize(a[0], a[1], a[2])), row(1, 0, 4), row(1, -1, 100), row(1, -1, 1000));
        e.at(28, "true; false: others.");
        wrong(e, "fees", 0, (x, a) -> so(x.fees(a[0], a[1])), row(1, -1, 100), row(1, -1, 100));
        e.at(32, "NONE: others, it does not STAND.");
        wrong(e, "protest", NONE, (x, a) -> x.protest(a[0], a[1]), row(0, -1, 3, 5, 40), row(0, -1, 2));
    }

    private static void gardens(Edges e) {
        e.at(34, "NoSuchElementException: others, not told, the same, more than 10.");
        wrong(e, "sets", THROWS, (x, a) -> x.sets(a[0], a[1], a[2], a[3]),
            row(0, -1, 3, 10), row(0, -1, 1, 10), row(3, -1, 1, 10), row(0, -1, 3));
        wrong(e, "sets, the same", THROWS, (x, a) -> x.sets(a[0], a[1], 3, a[2]), row(0, -1, 3, 10), row(0, 3),
            row(0, -1, 3));
        e.at(35, "true; false: others.");
        wrong(e, "year", 0, (x, a) -> so(x.year(a[0], a[1], a[2])), row(3, -1, 10), row(0, -1, 5), row(1, -2, 100));
        e.at(36, "NONE: others, not told.");
        wrong(e, "planned", NONE, (x, a) -> x.planned(a[0], a[1]), row(0, -1, 1, 10), row(0, -1, 2));
        e.at(37, "true; false: none such, nothing is on it (back).");
        wrong(e, "mark back", 0, (x, a) -> so(x.mark(a[0], a[1] > 0)), row(0, -1, 4), row(0, 1));
    }
}
