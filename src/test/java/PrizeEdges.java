import java.util.Random;

/** The edges of points, the cup, protests and money: promises 27 to 33. */
final class PrizeEdges {
    private static final int NONE = VillageShow.NONE;

    private PrizeEdges() {
    }

    static void run(Edges e) {
        pointsAtFirst(e);
        prizeLimits(e);
        prizeRefused(e);
        sharedPlaces(e);
        onlyWhenJudged(e);
        mostPoints(e);
        pointsRefused(e);
        cupOfNone(e);
        cupOfMany(e);
        cupByFirsts(e);
        canAtAll(e);
        canByFirsts(e);
        canAsMany(e);
        canLimits(e);
        canRefused(e);
        canInAnyOrder(e);
        protestPlaces(e);
        protestNone(e);
        protestCup(e);
        protestRefused(e);
        feeLimits(e);
        money(e);
        moneyAtTheEnds(e);
        moneyRefused(e);
    }

    /** Ten exhibitors, who % 5 their house; classes of "marks size;"; judge 0 of house 5. Entries get pieces in turn. */
    private static final class Fair {
        final VillageShow x = new VillageShow();
        private final int[] behind = new int[10];
        private int next;

        Fair(int classes) {
            for (int who = 0; who < 10; who++) {
                x.exhibitor(who, who % 5, 20, false);
            }
            x.judge(0, 5);
            for (int kind = 0; kind < classes; kind++) {
                Checks.schedule(x, kind, "marks size;bar 1 when grade=9;");
            }
        }

        /** Of each exhibitor an entry, each with less marks than those before it. */
        Fair enter(int kind, int... whos) {
            for (int who : whos) {
                enterOne(kind, who, 99 - behind[kind]);
                behind[kind]++;
            }
            return this;
        }

        int enterOne(int kind, int who, int size) {
            return enterGraded(kind, who, size, 0);
        }

        int enterGraded(int kind, int who, int size, int grade) {
            x.piece(next, who, 1, size, grade);
            next++;
            return x.entry(kind, who, 1L << (next - 1), 9);
        }

        Fair judge(int... kinds) {
            for (int kind : kinds) {
                x.judged(kind, 0);
            }
            return this;
        }

        Fair won(int... whos) {
            for (int who : whos) {
                x.exhibitor(who, who % 5, 20, true);
            }
            return this;
        }

        Fair prizes(int first, int second, int third) {
            x.prize(1, first, 0);
            x.prize(2, second, 0);
            x.prize(3, third, 0);
            return this;
        }
    }

    private static void points(Edges e, String what, VillageShow x, int... due) {
        for (int who = 0; who < due.length; who++) {
            e.due(what + ", points of " + who, x.points(false, who), due[who]);
        }
    }

    // ---- 27

    private static void pointsAtFirst(Edges e) {
        e.at(27, "POINTS for PLACES 1 to 3 (0 to 99; 3, 2, 1 at first), for each who has the PLACE, in CLASSES JUDGED, by the"
            + " JUDGE told for it.");
        VillageShow x = new Fair(1).enter(0, 0, 1, 2, 3, 4).judge(0).x;
        points(e, "3, 2, 1 at first", x, 3, 2, 1, 0, 0, 0, 0, 0, 0, 0);
        for (int place = 1; place <= 3; place++) {
            VillageShow y = new Fair(1).enter(0, 0, 1, 2, 3, 4).judge(0).x;
            int[] due = {3, 2, 1, 0, 0};
            for (int n = 0; n <= 99; n++) {
                e.yes("place " + place + " has " + n, y.prize(place, n, 0));
                due[place - 1] = n;
                points(e, "place " + place + " has " + n, y, due);
            }
        }
    }

    private static void prizeLimits(Edges e) {
        e.at(27, "PRIZES for PLACES 1 to 3 (0 to 999; 0 at first) in CLASSES JUDGED");
        Fair fair = new Fair(1).enter(0, 0, 1, 2, 3, 4).judge(0);
        for (int who = 0; who < 10; who++) {
            e.due("0 at first", fair.x.money(who), 0);
        }
        for (int place = 1; place <= 3; place++) {
            for (int n : new int[] {0, 1, 500, 998, 999}) {
                e.yes("place " + place + " gets " + n, fair.x.prize(place, 0, n));
                for (int who = 0; who < 5; who++) {
                    e.due("money of " + who, fair.x.money(who), who == place - 1 ? n : who < place ? 999 : 0);
                }
            }
        }
        points(e, "no points", fair.x, 0, 0, 0, 0, 0);
    }

    private static void prizeRefused(Edges e) {
        e.at(27, "POINTS and PRIZES of a PLACE: true; false: others.");
        for (int place : Edges.outside(1, 3)) {
            e.declines("place " + place, x -> x.prize(place, 50, 50));
        }
        for (int place = 1; place <= 3; place++) {
            int its = place;
            for (int n : Edges.outside(0, 99)) {
                e.declines("points " + n + " of place " + place, x -> x.prize(its, n, 50));
            }
            for (int n : Edges.outside(0, 999)) {
                e.declines("money " + n + " of place " + place, x -> x.prize(its, 50, n));
            }
            e.declines("both wrong", x -> x.prize(its, 100, 1000));
        }
    }

    private static void sharedPlaces(Edges e) {
        e.at(27, "for each who has the PLACE");
        Fair firsts = new Fair(1);
        firsts.enterOne(0, 0, 50);
        firsts.enterOne(0, 1, 50);
        firsts.enterOne(0, 2, 40);
        firsts.enterOne(0, 3, 30);
        points(e, "two firsts, no second, a third", firsts.judge(0).x, 3, 3, 1, 0);
        Fair seconds = new Fair(1);
        seconds.enterOne(0, 0, 50);
        seconds.enterOne(0, 1, 40);
        seconds.enterOne(0, 2, 40);
        seconds.enterOne(0, 3, 30);
        points(e, "a first, two seconds, no third", seconds.judge(0).x, 3, 2, 2, 0);
        Fair thirds = new Fair(1);
        thirds.enterOne(0, 0, 50);
        thirds.enterOne(0, 1, 40);
        for (int who = 2; who < 10; who++) {
            thirds.enterOne(0, who, 30);
        }
        points(e, "eight thirds", thirds.judge(0).x, 3, 2, 1, 1, 1, 1, 1, 1, 1, 1);
        Fair three = new Fair(1);
        three.enterOne(0, 3, 49);
        for (int who = 0; who < 3; who++) {
            three.enterOne(0, who, 50);
        }
        points(e, "three firsts, a fourth", three.judge(0).x, 3, 3, 3, 0);
        Fair own = new Fair(1).enter(0, 0, 0, 0, 0);
        points(e, "all three of one", own.judge(0).x, 6, 0);
    }

    private static void onlyWhenJudged(Edges e) {
        e.at(29, "in CLASSES JUDGED, by the JUDGE told for it.");
        Fair fair = new Fair(10).enter(0, 0, 1).enter(9, 1, 0, 2);
        points(e, "none is judged", fair.x, 0, 0, 0);
        points(e, "class 9", fair.judge(9).x, 2, 3, 1);
        points(e, "both", fair.judge(0).x, 5, 5, 1);
        fair.x.judge(1, 5);
        fair.x.lean(1, 0, -9);
        points(e, "another judge leans, but has not judged", fair.x, 5, 5, 1);
        fair.x.judged(9, 1);
        points(e, "and now has", fair.x, 4, 5, 2);
        fair.x.judge(1, 0);
        points(e, "who is kin by now", fair.x, 4, 5, 2);
        fair.x.strike(0);
        points(e, "a struck entry has none", fair.x, 1, 6, 2);
        Checks.book(fair.x, "bar 1 when size=99;");
        points(e, "one that is out has none", fair.x, 2, 3, 3);
        fair.x.judged(9, NONE);
        fair.x.judged(0, NONE);
        points(e, "none is judged", fair.x, 0, 0, 0);
    }

    // ---- 29

    private static void mostPoints(Edges e) {
        e.at(29, "POINTS of an EXHIBITOR (house false) or a HOUSE;");
        Fair all = new Fair(1).prizes(99, 99, 99);
        for (int entry = 0; entry < 40; entry++) {
            all.enterOne(0, 9, 50);
        }
        e.due("40 firsts of 99", all.judge(0).x.points(false, 9), 3960);
        e.due("its house", all.x.points(true, 4), 3960);
        e.due("another house", all.x.points(true, 3), 0);
        e.due("house 5 has nobody", all.x.points(true, 5), 0);
        Fair fair = new Fair(10);
        for (int kind = 0; kind < 10; kind++) {
            fair.enter(kind, kind, (kind + 1) % 10, (kind + 2) % 10, (kind + 3) % 10).judge(kind);
        }
        for (int who = 0; who < 10; who++) {
            e.due("a first, a second, a third, a fourth", fair.x.points(false, who), 6);
        }
        for (int house = 0; house < 5; house++) {
            e.due("two of house " + house, fair.x.points(true, house), 12);
        }
        fair.won(7);
        e.due("one who won has points as well", fair.x.points(false, 7), 6);
        e.due("and the house", fair.x.points(true, 2), 12);
        fair.x.exhibitor(7, 5, 20, false);
        e.due("gone to house 5", fair.x.points(true, 5), 6);
        e.due("the former house", fair.x.points(true, 2), 6);
    }

    private static void pointsRefused(Edges e) {
        e.at(29, "NONE: others, not told.");
        for (int who : new int[] {-1, 3, 8, 10, Edges.LOW, Edges.HIGH}) {
            e.none("exhibitor " + who, x -> x.points(false, who));
        }
        for (int house : Edges.outside(0, 5)) {
            e.none("house " + house, x -> x.points(true, house));
        }
        int[] due = {2, 6, 0, 0, 6, 0};
        for (int house = 0; house <= 5; house++) {
            int its = house;
            e.leaves("house " + house, due[house], x -> x.points(true, its));
        }
        e.leaves("exhibitor 0", 2, x -> x.points(false, 0));
        e.leaves("exhibitor 9", 6, x -> x.points(false, 9));
    }

    // ---- 30

    private static void cupOfNone(Edges e) {
        e.at(30, "CUP: of EXHIBITORS told who did not WIN last year and have POINTS those with the most,");
        e.due("no entry", new Fair(1).x.cup(), 0);
        e.due("none judged", new Fair(1).enter(0, 0).x.cup(), 0);
        e.due("no points for a first", new Fair(1).enter(0, 0, 1).judge(0).prizes(0, 0, 0).x.cup(), 0);
        e.due("a point for a second", new Fair(1).enter(0, 0, 1).judge(0).prizes(0, 1, 0).x.cup(), 2);
        e.due("a point for a third", new Fair(1).enter(0, 0, 1, 2).judge(0).prizes(0, 0, 1).x.cup(), 4);
        e.due("a point for a third, there is none", new Fair(1).enter(0, 0, 1).judge(0).prizes(0, 0, 1).x.cup(), 0);
        e.due("the first won last year", new Fair(1).enter(0, 0, 1).judge(0).won(0).x.cup(), 2);
        e.due("all won last year", new Fair(1).enter(0, 0, 1).judge(0).won(0, 1).x.cup(), 0);
        e.due("the only one", new Fair(1).enter(0, 9).judge(0).x.cup(), 1 << 9);
        e.due("the only one won", new Fair(1).enter(0, 9).judge(0).won(9).x.cup(), 0);
        Fair struck = new Fair(1).enter(0, 0, 1).judge(0);
        struck.x.strike(0);
        e.due("the first is struck", struck.x.cup(), 2);
        struck.x.strike(1);
        e.due("both are", struck.x.cup(), 0);
    }

    private static void cupOfMany(Edges e) {
        e.at(30, "The CUP as bits.");
        for (int who = 0; who < 10; who++) {
            e.due("exhibitor " + who, new Fair(1).enter(0, who).judge(0).x.cup(), 1 << who);
        }
        Fair fair = new Fair(10);
        for (int kind = 0; kind < 10; kind++) {
            fair.enter(kind, kind).judge(kind);
        }
        e.due("all ten", fair.x.cup(), 1023);
        e.due("all but 0 and 9", fair.won(0, 9).x.cup(), 1022 - 512);
        fair.enter(0, 5);
        e.due("a second place more", fair.x.cup(), 1 << 5);
        fair.x.prize(2, 0, 0);
        e.due("which is worth nothing", fair.x.cup(), 1022 - 512);
    }

    private static void cupByFirsts(Edges e) {
        e.at(30, "of these those with the most first PLACES: as bits.");
        Fair fair = new Fair(3).prizes(2, 1, 1).enter(0, 0, 2).enter(1, 1, 2).enter(2, 1, 2);
        e.due("a first for 2, a second for 1", fair.judge(0).x.cup(), 1);
        e.due("2, 2 and 1 and 1", fair.judge(1).x.cup(), 0b11);
        fair.x.prize(1, 1, 0);
        e.due("1, 1 and 1 and 1: the most points first", fair.x.cup(), 0b100);
        e.due("a first, two firsts, three seconds", fair.judge(2).x.cup(), 0b100);
        fair.x.prize(1, 2, 0);
        e.due("2, 4 and 3", fair.x.cup(), 0b10);
        Fair even = new Fair(4).prizes(2, 1, 0).enter(0, 0, 1).enter(1, 3, 1);
        e.due("2, 1 and 1, 2: those who were first", even.judge(0, 1).x.cup(), 0b1001);
        even.won(0);
        e.due("one who won is none of these", even.x.cup(), 0b1000);
        even.won(3);
        e.due("so the seconds have it", even.x.cup(), 0b10);
        Fair unjudged = new Fair(4).prizes(2, 1, 0).enter(0, 0).enter(1, 1).enter(2, 0);
        e.due("a first in a class that is not judged", unjudged.judge(0, 1).x.cup(), 0b11);
        unjudged.prizes(0, 1, 0).enter(0, 2).enter(1, 3);
        e.due("firsts that bring nothing", unjudged.x.cup(), 0b1100);
        unjudged.enter(3, 2).judge(3);
        e.due("a first that brings nothing but is one", unjudged.x.cup(), 0b100);
        Fair shared = new Fair(2).prizes(2, 2, 2).enter(1, 9, 2);
        shared.enterOne(0, 0, 50);
        shared.enterOne(0, 1, 50);
        shared.enterOne(0, 2, 40);
        e.due("a first that is shared is one for both", shared.judge(0).x.cup(), 0b11);
        e.due("two thirds or seconds are more points", shared.judge(1).x.cup(), 0b100);
    }

    // ---- 31

    private static void chances(Edges e, String what, VillageShow x, int due) {
        for (int who = 0; who < 10; who++) {
            e.due(what + ", can " + who, x.can(who), due >> who & 1);
        }
    }

    private static void canAtAll(Edges e) {
        e.at(31, "CAN: an EXHIBITOR can be among them, if the CLASSES that are not JUDGED");
        chances(e, "nothing is open", new Fair(3).x, 0);
        chances(e, "one entry", new Fair(1).enter(0, 4).x, 1 << 4);
        chances(e, "two entries", new Fair(1).enter(0, 4, 0).x, 1 << 4 | 1);
        chances(e, "all is judged", new Fair(1).enter(0, 4, 0).judge(0).x, 1 << 4);
        chances(e, "one won last year", new Fair(1).enter(0, 4, 0).won(4).x, 1);
        chances(e, "points for none", new Fair(1).enter(0, 4, 0).prizes(0, 0, 0).x, 0);
        chances(e, "points for the second alone", new Fair(1).enter(0, 4, 0).prizes(0, 9, 0).x, 1 << 4 | 1);
        chances(e, "but there is no second", new Fair(1).enter(0, 4).prizes(0, 9, 0).x, 0);
        chances(e, "points for the third alone", new Fair(1).enter(0, 1, 2, 3).prizes(0, 0, 9).x, 0b1110);
        chances(e, "but there is no third", new Fair(1).enter(0, 4, 0).prizes(0, 0, 9).x, 0);
        Fair fair = new Fair(2).enter(0, 4, 0).enter(1, 4, 3).judge(0);
        chances(e, "3 has 3 at most, 4 has 5 at least", fair.x, 1 << 4);
        fair.x.prize(1, 4, 0);
        chances(e, "3 has 4 at most, 4 has 6 at least", fair.x, 1 << 4);
        fair.x.prize(2, 0, 0);
        chances(e, "3 has 4 at most, 4 has 4 at least", fair.x, 1 << 4 | 1 << 3);
        fair.x.strike(3);
        chances(e, "a struck one does not come out", fair.x, 1 << 4);
        VillageShow none = new VillageShow();
        none.exhibitor(0, 0, 20, false);
        e.due("no class at all", none.can(0), 0);
    }

    private static void canByFirsts(Edges e) {
        e.at(31, "can be among them");
        Fair fair = new Fair(4).prizes(2, 2, 0).enter(0, 0, 1).judge(0);
        chances(e, "as many points, a first less", fair.x, 0b1);
        fair.enter(1, 1);
        chances(e, "one more for 1", fair.x, 0b10);
        fair.enter(1, 0);
        chances(e, "0 and 1, either way: firsts 1 and 1, or 2", fair.x, 0b11);
        fair.enter(2, 0, 1).judge(2);
        chances(e, "0 has two firsts before", fair.x, 0b1);
        fair.enter(3, 1, 0);
        chances(e, "1 can have two as well", fair.x, 0b11);
        fair.judge(3);
        chances(e, "now by one class: 2 and 2 firsts", fair.x, 0b11);
        Fair seconds = new Fair(3).prizes(1, 2, 0).enter(0, 1, 0).judge(0).enter(1, 1, 0);
        chances(e, "the second is the better one: 0 has 2, 1 has 1", seconds.x, 0b11);
        seconds.enter(2, 1, 0).judge(2);
        chances(e, "0 has 4, 1 has 2 and two firsts", seconds.x, 0b1);
        seconds.prizes(2, 3, 0);
        chances(e, "0 has 6, 1 has 4: a second brings 1 to 7, 0 to 8", seconds.x, 0b1);
        seconds.prizes(2, 2, 9);
        chances(e, "0 has 4 and no first, 1 has 4 and two", seconds.x, 0b10);
    }

    private static void canAsMany(Edges e) {
        e.at(31, "come out in any order, no two alike.");
        Fair fair = new Fair(2).prizes(1, 0, 0).enter(0, 0).judge(0).enter(1, 1, 2);
        chances(e, "1 or 2 draws level", fair.x, 0b111);
        fair.prizes(2, 1, 0);
        chances(e, "2, 2 and 1: all but one second", fair.x, 0b111);
        fair.prizes(9, 9, 0);
        chances(e, "firsts and seconds bring the same, but one is first", fair.x, 0b111);
        Fair alike = new Fair(2).prizes(3, 0, 0).enter(0, 0).judge(0);
        alike.enterOne(1, 1, 50);
        alike.enterOne(1, 1, 50);
        alike.enterOne(1, 2, 50);
        chances(e, "two of one: one first alone", alike.x, 0b111);
        alike.prizes(3, 1, 0);
        chances(e, "two of one: 4 are more than 3", alike.x, 0b111);
        alike.won(2);
        chances(e, "whatever comes, 1 has 1, 3 or 4", alike.x, 0b11);
        Fair must = new Fair(2).prizes(4, 3, 2).enter(0, 0).judge(0).enter(1, 1, 1);
        chances(e, "1 has 7 in any order", must.x, 0b10);
        must.enter(1, 0);
        chances(e, "with one of 0: 8 at most against 5", must.x, 0b11);
        chances(e, "those who won have as many points and more firsts, and are no rivals",
            new Fair(2).prizes(0, 5, 0).enter(0, 1, 2).enter(1, 3, 4).won(2, 3, 4).x, 0b10);
        chances(e, "nor are they if they have more points",
            new Fair(2).prizes(9, 5, 1).enter(0, 2, 3, 1).enter(1, 3, 4).won(2, 3, 4).x, 0b10);
        Fair fives = new Fair(1).enter(0, 0, 1, 2, 3, 4);
        chances(e, "five: each can be the first", fives.x, 0b11111);
        fives.won(0, 1, 2);
        chances(e, "three won: they may take no place before", fives.x, 0b11000);
        fives.prizes(0, 0, 1);
        chances(e, "the third place is enough", fives.x, 0b11000);
    }

    private static void canLimits(Edges e) {
        e.at(31, "(3 at most that have ENTRIES that STAND and are not OUT, 5 such ENTRIES each at most)");
        for (int many = 1; many <= 10; many++) {
            Fair fair = new Fair(1);
            for (int who = 0; who < many; who++) {
                fair.enterOne(0, who, 50);
            }
            e.due(many + " entries", fair.x.can(0), many <= 5 ? 1 : NONE);
            e.due(many + " entries, one without", fair.x.can(9), many <= 5 ? 0 : NONE);
            fair.enterGraded(0, 0, 50, 9);
            e.due(many + " entries and one that is out", fair.x.can(0), many <= 5 ? 1 : NONE);
            if (many == 6) {
                fair.x.strike(5);
                e.due("one of six is struck", fair.x.can(0), 1);
                e.due("one of six is struck", fair.x.can(5), 0);
            }
            fair.judge(0);
            e.due(many + " entries, judged", fair.x.can(0), 1);
        }
        for (int many = 1; many <= 10; many++) {
            Fair fair = new Fair(10);
            for (int kind = 0; kind < many; kind++) {
                fair.enter(kind, kind);
            }
            e.due(many + " classes", fair.x.can(0), many <= 3 ? 1 : NONE);
            for (int kind = 3; kind < many; kind++) {
                e.due("too many", fair.x.can(0), NONE);
                fair.judge(kind);
            }
            e.due("three are left of " + many, fair.x.can(0), 1);
        }
        Fair out = new Fair(10).enter(0, 0).enter(5, 1).enter(8, 2);
        out.enterGraded(9, 3, 50, 9);
        chances(e, "a fourth class has one that is out", out.x, 0b111);
        out.enter(9, 3);
        e.due("and one that is not", out.x.can(0), NONE);
        out.x.strike(4);
        chances(e, "which is struck", out.x, 0b111);
        Fair mixed = new Fair(3).enter(0, 0).enter(1, 0, 1, 2, 3, 4, 5);
        e.due("six in the second class", mixed.x.can(0), NONE);
        e.due("six, for one who has none", mixed.x.can(9), NONE);
        Fair third = new Fair(3).enter(0, 0).enter(1, 0).enter(2, 0, 1, 2, 3, 4);
        e.due("five in the third class", third.x.can(0), 1);
        e.due("six in the third class", third.enter(2, 5).x.can(0), NONE);
        e.due("ten in the third class", third.enter(2, 6, 7, 8, 9).x.can(0), NONE);
        Fair both = new Fair(4).enter(0, 0).enter(1, 0).enter(2, 0).enter(3, 0, 1, 2, 3, 4, 5);
        e.due("four classes, six in the last", both.x.can(0), NONE);
        Fair own = new Fair(2).prizes(9, 9, 9).enter(0, 0, 0, 0).judge(0).enter(1, 1, 1, 1);
        chances(e, "all three places of one class, against as many", own.x, 0b11);
        own.prizes(9, 9, 8);
        chances(e, "the third is worth a point less for both", own.x, 0b11);
        own.enter(1, 1, 1);
        chances(e, "five of one, three places", own.x, 0b11);
        Fair forty = new Fair(10);
        for (int entry = 0; entry < 40; entry++) {
            forty.enterOne(entry < 25 ? 3 + entry % 7 : (entry - 25) % 3, entry < 25 ? 1 : entry % 10, 90 - entry);
        }
        forty.judge(3, 4, 5, 6, 7, 8, 9);
        chances(e, "40 entries, three of five are open", forty.x, 0b10);
        Fair fives = new Fair(3).enter(0, 0, 1, 2, 3, 4).enter(1, 0, 1, 2, 3, 4).enter(2, 5, 6, 7, 8, 9);
        chances(e, "three of five", fives.x, 1023);
    }

    private static void canRefused(Edges e) {
        e.at(31, "CAN: 1 or 0; NONE: not told, too many CLASSES, ENTRIES.");
        for (int who : new int[] {-1, 3, 8, 10, Edges.LOW, Edges.HIGH}) {
            e.none("exhibitor " + who, x -> x.can(who));
        }
        e.leaves("exhibitor 0", 0, x -> x.can(0));
        e.leaves("exhibitor 1", 1, x -> x.can(1));
        e.leaves("exhibitor 2 won last year", 0, x -> x.can(2));
        e.leaves("exhibitor 9", 1, x -> x.can(9));
    }

    /** Three classes of five entries, the most that there can be, against all ways to give the three places. */
    private static void canInAnyOrder(Edges e) {
        e.at(31, "come out in any order");
        Random random = new Random(31);
        for (int run = 0; run < 40; run++) {
            Fair fair = new Fair(6);
            int people = 3 + random.nextInt(8);
            int[] prizes = {random.nextInt(4), random.nextInt(4), random.nextInt(3)};
            int[][] open = new int[3][5];
            for (int kind = 0; kind < 6; kind++) {
                for (int i = 0; i < 5; i++) {
                    int who = random.nextInt(people);
                    fair.enterOne(kind, who, 50 + random.nextInt(4));
                    if (kind < 3) {
                        open[kind][i] = who;
                    }
                }
            }
            fair.judge(3, 4, 5).prizes(prizes[0], prizes[1], prizes[2]);
            int won = random.nextInt(1024) & random.nextInt(1024) & random.nextInt(1024);
            int[] points = new int[10];
            int[] firsts = new int[10];
            for (int who = 0; who < 10; who++) {
                points[who] = fair.x.points(false, who);
                if ((won >> who & 1) != 0) {
                    fair.won(who);
                }
            }
            for (int entry = 15; entry < 30; entry++) {
                firsts[fair.x.fact(entry, 12)] += fair.x.place(entry, NONE) == 1 ? 1 : 0;
            }
            int due = leaders(points, firsts, prizes, open, won, 0);
            for (int who = 0; who < 10; who++) {
                e.due("run " + run + ", exhibitor " + who, fair.x.can(who), due >> who & 1);
            }
        }
    }

    /** All who lead in any way, as bits. */
    private static int leaders(int[] points, int[] firsts, int[] prizes, int[][] open, int won, int at) {
        if (at == open.length) {
            return leadersNow(points, firsts, won);
        }
        int bits = 0;
        for (int a = 0; a < 5; a++) {
            for (int b = 0; b < 5; b++) {
                for (int c = 0; c < 5; c++) {
                    if (a == b || b == c || a == c) {
                        continue;
                    }
                    int[] who = open[at];
                    points[who[a]] += prizes[0];
                    firsts[who[a]]++;
                    points[who[b]] += prizes[1];
                    points[who[c]] += prizes[2];
                    bits |= leaders(points, firsts, prizes, open, won, at + 1);
                    points[who[a]] -= prizes[0];
                    firsts[who[a]]--;
                    points[who[b]] -= prizes[1];
                    points[who[c]] -= prizes[2];
                }
            }
        }
        return bits;
    }

    private static int leadersNow(int[] points, int[] firsts, int won) {
        int best = 0;
        int bits = 0;
        for (int who = 0; who < 10; who++) {
            int its = (won >> who & 1) != 0 || points[who] == 0 ? 0 : 100 * points[who] + firsts[who];
            if (its > best) {
                best = its;
                bits = 0;
            }
            bits |= its > 0 && its == best ? 1 << who : 0;
        }
        return bits;
    }

    // ---- 32

    private static void protestPlaces(Edges e) {
        e.at(32, "PROTEST against an ENTRY that STANDS: if it were STRUCK: how many other ENTRIES of CLASSES JUDGED would have"
            + " another PLACE");
        Fair fair = new Fair(2).enter(0, 0, 1, 2, 3, 4).enter(1, 0, 1, 2);
        for (int entry = 0; entry < 8; entry++) {
            e.due("no class is judged", fair.x.protest(entry, 0), 0);
        }
        fair.judge(0);
        for (int entry = 0; entry < 5; entry++) {
            e.due("all behind entry " + entry, fair.x.protest(entry, 0), 4 - entry);
        }
        for (int entry = 5; entry < 8; entry++) {
            e.due("class 1 is not judged", fair.x.protest(entry, 0), 0);
        }
        fair.judge(1);
        e.due("class 1 is", fair.x.protest(5, 0), 2);
        e.due("others are as they were", fair.x.protest(0, 0), 4);
        Fair alike = new Fair(1);
        int[] sizes = {50, 50, 40, 40, 30};
        for (int who = 0; who < 5; who++) {
            alike.enterOne(0, who, sizes[who]);
        }
        alike.judge(0);
        int[] due = {3, 3, 1, 1, 0};
        for (int entry = 0; entry < 5; entry++) {
            e.due("ties, entry " + entry, alike.x.protest(entry, 0), due[entry]);
        }
        Fair only = new Fair(1).enter(0, 0).judge(0);
        e.due("the only one", only.x.protest(0, 0), 0);
        Fair many = new Fair(1);
        for (int entry = 0; entry < 40; entry++) {
            many.enterOne(0, entry % 10, 90 - entry);
        }
        many.judge(0);
        e.due("the first of 40", many.x.protest(0, 0), 39);
        e.due("the last but one", many.x.protest(38, 0), 1);
        e.due("the last", many.x.protest(39, 0), 0);
    }

    private static void protestNone(Edges e) {
        e.at(32, "(none counts as one)");
        Fair fair = new Fair(1);
        Checks.schedule(fair.x, 0, "marks size;bar 1 when 1<entries;");
        fair.enter(0, 0, 1, 0, 2).judge(0);
        e.due("entry 2 comes in behind", fair.x.protest(0, 0), 2);
        e.due("entry 0 comes in before all", fair.x.protest(2, 0), 3);
        e.due("the one behind", fair.x.protest(1, 0), 1);
        Checks.schedule(fair.x, 0, "marks size;bar 1 when entries=1 and won=0;");
        e.due("entry 2 goes out; no other is in", fair.x.protest(0, 0), 1);
        e.due("entry 0 goes out", fair.x.protest(2, 0), 1);
        e.due("one that is out changes nothing", fair.x.protest(1, 0), 0);
        Fair all = new Fair(1);
        Checks.schedule(all.x, 0, "bar 1 when entries<2;");
        all.enter(0, 0, 0).judge(0);
        e.due("the other one goes out", all.x.protest(1, 0), 1);
        all.enter(0, 0);
        e.due("all alike, none goes out", all.x.protest(1, 0), 0);
    }

    private static void protestCup(Edges e) {
        e.at(32, "the CUP then.");
        Fair fair = new Fair(2).enter(0, 0, 1, 2).enter(1, 2).judge(0);
        e.due("as it is", fair.x.cup(), 0b1);
        e.due("without the first", fair.x.protest(0, 1), 0b10);
        e.due("without the second", fair.x.protest(1, 1), 0b1);
        e.due("without one in a class that is not judged", fair.x.protest(3, 1), 0b1);
        fair.judge(1);
        e.due("3, 2, 4", fair.x.cup(), 0b100);
        e.due("3, 2, 1", fair.x.protest(3, 1), 0b1);
        e.due("0, 3, 5", fair.x.protest(0, 1), 0b100);
        e.due("3, 2, 3", fair.x.protest(2, 1), 0b101);
        fair.won(0);
        e.due("0 won last year", fair.x.protest(3, 1), 0b10);
        Fair only = new Fair(1).enter(0, 9).judge(0);
        e.due("the only one", only.x.protest(0, 1), 0);
        e.due("it still stands", only.x.cup(), 1 << 9);
    }

    private static void protestRefused(Edges e) {
        e.at(32, "PROTEST, what 0: how many PLACES, 1: the CUP then; NONE: others, it does not STAND.");
        for (int entry : new int[] {-1, 5, 6, 39, 40, 63, 64, Edges.LOW, Edges.HIGH}) {
            e.none("entry " + entry, x -> x.protest(entry, 0));
            e.none("entry " + entry + ", the cup", x -> x.protest(entry, 1));
        }
        for (int what : Edges.outside(0, 1)) {
            e.none("what " + what, x -> x.protest(0, what));
        }
        e.none("struck", x -> x.protest(3, 0));
        e.none("struck, the cup", x -> x.protest(3, 1));
        e.leaves("entry 0", 0, x -> x.protest(0, 0));
        e.leaves("entry 1", 1, x -> x.protest(1, 0));
        e.leaves("entry 1, the cup", 1 | 1 << 9, x -> x.protest(1, 1));
        e.leaves("entry 4, the cup", 1 << 1, x -> x.protest(4, 1));
    }

    // ---- 28 and 33

    private static void feeLimits(Edges e) {
        e.at(28, "less FEE (0 to 99; 0 at first) for each ENTRY (STRUCK ones, too), less JAR (0 to 99; 0 at first) for each of"
            + " their JARS that are LOST.");
        Fair fair = new Fair(1).enter(0, 0, 0);
        fair.x.lost(0, 2);
        fair.x.lost(1, 1);
        e.due("0 at first", fair.x.money(0), 0);
        for (int n = 0; n <= 99; n++) {
            e.yes("fee " + n, fair.x.fees(n, 0));
            e.due("two fees of " + n, fair.x.money(0), -2 * n);
            e.yes("jar " + n, fair.x.fees(0, n));
            e.due("three jars of " + n, fair.x.money(0), -3 * n);
            e.yes("both " + n, fair.x.fees(n, 99 - n));
            e.due("both of " + n, fair.x.money(0), -2 * n - 3 * (99 - n));
        }
        e.at(28, "FEE and JAR: true; false: others.");
        for (int n : Edges.outside(0, 99)) {
            e.declines("fee " + n, x -> x.fees(n, 50));
            e.declines("jar " + n, x -> x.fees(50, n));
            e.declines("both " + n, x -> x.fees(n, n));
        }
    }

    private static void money(Edges e) {
        e.at(33, "MONEY of an EXHIBITOR: PRIZES for PLACES 1 to 3 (0 to 999; 0 at first) in CLASSES JUDGED,");
        Fair fair = new Fair(2).enter(0, 0, 1, 2, 3).enter(1, 3, 0);
        fair.x.prize(1, 0, 100);
        fair.x.prize(2, 0, 50);
        fair.x.prize(3, 0, 20);
        e.due("not judged", fair.x.money(0), 0);
        fair.judge(0);
        int[] one = {100, 50, 20, 0, 0};
        fair.won(1);
        for (int who = 0; who < 5; who++) {
            e.due("class 0, also for one who won last year", fair.x.money(who), one[who]);
        }
        fair.judge(1);
        int[] two = {150, 50, 20, 100, 0};
        for (int who = 0; who < 5; who++) {
            e.due("both", fair.x.money(who), two[who]);
        }
        e.at(33, "less FEE (0 to 99; 0 at first) for each ENTRY (STRUCK ones, too),");
        fair.x.fees(7, 3);
        e.due("two entries", fair.x.money(0), 136);
        e.due("none", fair.x.money(9), 0);
        fair.x.strike(0);
        e.due("one is struck: no prize, but its fee", fair.x.money(0), 50 - 14);
        fair.x.strike(5);
        e.due("both are", fair.x.money(0), -14);
        e.due("the next ones", fair.x.money(1), 100 - 7);
        e.at(33, "less JAR (0 to 99; 0 at first) for each of their JARS that are LOST.");
        fair.x.lost(0, 9);
        e.due("of a struck one, too", fair.x.money(0), -14 - 27);
        fair.x.lost(0, 1);
        fair.x.lost(5, 2);
        e.due("as told", fair.x.money(0), -14 - 9);
        e.due("others have lost none", fair.x.money(1), 93);
        fair.x.mark(0, false);
        fair.enter(1, 0);
        e.due("one more", fair.x.money(0), -14 - 9 - 7 + 50);
        fair.x.mark(0, true);
        e.due("gone back: it is not there", fair.x.money(0), -14 - 9);
    }

    private static void moneyAtTheEnds(Edges e) {
        e.at(33, "MONEY of an EXHIBITOR");
        Fair most = new Fair(1);
        for (int entry = 0; entry < 40; entry++) {
            most.enterOne(0, 9, 50);
        }
        most.x.prize(1, 0, 999);
        e.due("40 shared firsts", most.judge(0).x.money(9), 39960);
        for (int entry = 0; entry < 40; entry++) {
            most.x.lost(entry, 9);
            most.x.strike(entry);
        }
        most.x.fees(99, 99);
        e.due("40 struck ones, all jars lost", most.x.money(9), -40 * 99 - 360 * 99);
        e.due("nobody else pays", most.x.money(0), 0);
    }

    private static void moneyRefused(Edges e) {
        e.at(33, "NoSuchElementException: not told.");
        for (int who : new int[] {-1, 3, 8, 10, Edges.LOW, Edges.HIGH}) {
            e.refuses("exhibitor " + who, x -> x.money(who));
        }
        int[] due = {-5, 97, -3};
        for (int who = 0; who < 3; who++) {
            int its = who;
            e.leaves("exhibitor " + who, due[who], x -> x.money(its));
        }
        e.leaves("exhibitor 9", 100 - 6 - 6, x -> x.money(9));
    }
}
