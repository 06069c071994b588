/** What is told a second time, just as it was told, changes nothing. */
final class AgainEdges {
    private AgainEdges() {
    }

    static void run(Edges e) {
        e.at(2, "An EXHIBITOR (in place of what was told): true; false: others.");
        e.tellsNothingNew("the first", x -> x.exhibitor(0, 0, 40, false));
        e.tellsNothingNew("one who won", x -> x.exhibitor(2, 2, 60, true));
        e.tellsNothingNew("the last", x -> x.exhibitor(9, 4, 99, false));
        e.at(3, "A PIECE (in place of what was told): true;");
        e.tellsNothingNew("in no entry", x -> x.piece(2, 0, 1, 14, 3));
        e.tellsNothingNew("in an entry that is struck", x -> x.piece(36, 9, 1, 82, 1));
        e.tellsNothingNew("the last", x -> x.piece(39, 9, 2, 88, 4));
        e.at(4, "how many there are.");
        e.leaves("nothing is fed", Sample.TAPE.length(), x -> x.feed(0, 0x1f7f80ff09000000L, -1));
        e.at(13, "in place of what was told");
        e.tellsNothingNew("a jar", x -> x.lost(0, 1));
        e.tellsNothingNew("none of a struck one", x -> x.lost(3, 0));
        e.at(14, "A JUDGE (in place of what was told; LEANS stay): true; false: others.");
        e.tellsNothingNew("judge 0", x -> x.judge(0, 5));
        e.tellsNothingNew("judge 1", x -> x.judge(1, 1));
        e.tellsNothingNew("judge 3", x -> x.judge(3, 5));
        e.at(15, "A LEAN of a JUDGE for a HOUSE: true;");
        e.tellsNothingNew("the greatest", x -> x.lean(0, 0, 9));
        e.tellsNothingNew("the least", x -> x.lean(3, 4, -9));
        e.tellsNothingNew("0 at first", x -> x.lean(0, 4, 0));
        e.at(19, "A CLASS is JUDGED by a JUDGE (NONE: not any more, also if it was not): true;");
        e.tellsNothingNew("judged", x -> x.judged(0, 0));
        e.tellsNothingNew("not judged", x -> x.judged(3, VillageShow.NONE));
        e.at(21, "FEET of a TABLE: true;");
        e.tellsNothingNew("table 2", x -> x.table(2, 7));
        e.at(22, "A CLASS lies on a TABLE, with FOOT for an ENTRY: true;");
        e.tellsNothingNew("as told", x -> x.lay(9, 1, 9));
        e.tellsNothingNew("table 0, a foot at first", x -> x.lay(3, 0, 1));
        e.at(25, "CAP: true;");
        e.tellsNothingNew("2", x -> x.cap(2));
        e.at(27, "POINTS and PRIZES of a PLACE: true;");
        e.tellsNothingNew("place 1", x -> x.prize(1, 6, 100));
        e.tellsNothingNew("place 2 as at first", x -> x.prize(2, 2, 0));
        e.at(28, "FEE and JAR: true;");
        e.tellsNothingNew("3 and 2", x -> x.fees(3, 2));
        e.at(35, "ENTRIES of a CLASS (told or not) in a YEAR (NONE: not told any more): true;");
        e.tellsNothingNew("told", x -> x.year(3, 4, 5));
        e.tellsNothingNew("not told", x -> x.year(3, 1, VillageShow.NONE));
        e.tellsNothingNew("of a class that is not told", x -> x.year(5, 0, 99));
    }
}
