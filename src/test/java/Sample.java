import java.util.NoSuchElementException;

/** A show in the midst of things, with something of everything, and a picture of all that such a show answers. */
final class Sample {
    /** The text that is on its tape. */
    static final String TAPE = "bar 9 when age=60;";

    static VillageShow show() {
        VillageShow x = emptied();
        Checks.feed(x, TAPE);
        return x;
    }

    /** 5 entries, of which entry 3 is struck; classes 0, 3 and 9; judges 0, 1 and 3; marks 1 and 3; an empty tape. */
    static VillageShow emptied() {
        VillageShow x = new VillageShow();
        x.exhibitor(0, 0, 40, false);
        x.exhibitor(1, 1, 8, false);
        x.exhibitor(2, 2, 60, true);
        x.exhibitor(9, 4, 99, false);
        for (int piece = 0; piece < 40; piece += piece == 11 ? 25 : 1) {
            int who = piece < 12 ? piece / 4 : 9;
            x.piece(piece, who, piece % 4 == 3 ? 2 : 1, 10 + 2 * piece, 1 + piece % 9);
        }
        Checks.schedule(x, 0, "want 2 kind 1;marks grade*2-spread;tie 0-age;");
        Checks.schedule(x, 3, "marks size+entries;bar 8 when 3<pieces;");
        Checks.schedule(x, 9, "bar 7 when kinds=2;marks grade;");
        Checks.book(x, "bar 4 when 98<age and entries=2;");
        Checks.plan(x, "drop when last=9 and most=9 and least=2 and mean=5 and years=3;join when 1;");
        x.judge(0, 5);
        x.judge(1, 1);
        x.judge(3, 5);
        x.lean(0, 0, 9);
        x.lean(3, 4, -9);
        x.lean(1, 2, 3);
        x.entry(0, 0, 0b11L, 2);
        x.entry(0, 1, 0b110000L, 9);
        x.entry(3, 2, 1L << 8 | 1L << 9, 0);
        x.entry(3, 9, 1L << 36, 4);
        x.mark(1, false);
        x.strike(3);
        x.entry(9, 9, 1L << 37, 5);
        x.judged(0, 0);
        x.judged(9, 3);
        x.mark(3, false);
        x.lost(0, 1);
        x.lost(4, 3);
        x.lay(0, 2, 3);
        x.lay(9, 1, 9);
        x.table(0, 2);
        x.table(1, 9);
        x.table(2, 7);
        x.year(3, 0, 9);
        x.year(3, 2, 2);
        x.year(3, 4, 5);
        x.cap(2);
        x.prize(1, 6, 100);
        x.prize(3, 2, 9);
        x.fees(3, 2);
        return x;
    }

    private static final class Picture {
        private final StringBuilder text = new StringBuilder();
        private final VillageShow x;

        Picture(VillageShow x) {
            this.x = x;
        }

        void add(String what, long answer) {
            text.append(what).append('=').append(answer).append('\n');
        }

        void add(String what, boolean answer) {
            text.append(what).append('=').append(answer).append('\n');
        }

        void counts(String when) {
            for (int what = 0; what <= 10; what++) {
                add(when + " count " + what, x.count(what));
            }
        }

        void entries(String when) {
            for (int entry = 0; entry < x.count(3); entry++) {
                String name = when + " entry " + entry;
                for (int what = 0; what <= 13; what++) {
                    add(name + " fact " + what, x.fact(entry, what));
                }
                add(name + " verdict", x.verdict(entry));
                add(name + " place", x.place(entry, VillageShow.NONE));
                add(name + " least place", x.span(entry, 0));
                add(name + " greatest place", x.span(entry, 1));
                add(name + " protest", x.protest(entry, 0));
                add(name + " cup without", x.protest(entry, 1));
                for (int judge : new int[] {0, 1, 3}) {
                    add(name + " marks by " + judge, x.marks(entry, judge));
                }
            }
        }

        void classes() {
            for (int kind : new int[] {0, 3, 9}) {
                String name = "class " + kind;
                add(name + " kin 0", x.kin(0, kind));
                add(name + " kin 1", x.kin(1, kind));
                add(name + " ages", x.clash(kind, 0));
                add(name + " planned", x.planned(kind, 0));
                add(name + " joined with", x.planned(kind, 1));
                add(name + " moves to", x.moves(false, 1 + kind));
                add(name + " dealt to", x.round(1 + kind));
            }
            add("moves", x.moves(false, 0));
            add("moves guessed", x.moves(true, 0));
            add("walks", x.round(0));
            for (int table = 0; table < 3; table++) {
                add("table " + table, x.taken(table, false));
                add("table guessed " + table, x.taken(table, true));
            }
        }

        void people() {
            for (int who : new int[] {0, 1, 2, 9}) {
                add("points of " + who, x.points(false, who));
                add("points of house " + who % 5, x.points(true, who % 5));
                add("can " + who, x.can(who));
                add("money of " + who, x.money(who));
                add("best of " + who, x.sets(who, 3, 9, 0));
                add("set for 3 of " + who, x.sets(who, 3, 9, 1));
                add("set for 9 of " + who, x.sets(who, 3, 9, 2));
            }
            add("cup", x.cup());
        }

        /** What is on the tape and on the marks shows only when it is used. */
        void used() {
            add("book", x.book());
            add("a bar", x.verdict(2));
            for (int mark = 3; mark >= 0; mark--) {
                add("back to " + mark, x.mark(mark, true));
                add("then there are", x.count(3));
                add("then stand", x.count(4));
                add("then judged", x.count(6));
                add("then lost", x.count(10));
            }
        }
    }

    /** Uses the show up: it is to be asked nothing afterwards. */
    static String picture(VillageShow x) {
        Picture picture = new Picture(x);
        try {
            picture.counts("");
            picture.entries("");
            picture.classes();
            picture.people();
            picture.used();
        } catch (NoSuchElementException e) {
            picture.text.append("refused\n");
        }
        return picture.text.toString();
    }
}
