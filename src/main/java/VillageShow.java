import java.util.Arrays;
import java.util.NoSuchElementException;

/** A village show: schedules and a book of rules read from a tape, entries, judges, tables, prizes and plans. */
public final class VillageShow {
    public static final int NONE = -1;

    private static final int EXHIBITORS = 10;
    private static final int HOUSES = 6;
    private static final int PIECES = 40;
    private static final int CLASSES = 10;
    private static final int ENTRIES = 40;
    private static final int JUDGES = 4;
    private static final int TABLES = 3;
    private static final int YEARS = 5;
    private static final int PLACES = 3;
    private static final int SHELVES = 4;
    private static final int MOST_PIECES = 8;
    private static final int NO_KIND = 10;
    private static final int NOT_AS_WANTED = 100;
    private static final int JOINED = 3;

    private static final int MOST_FREE = 10;
    private static final int FREE_SETS = 1 << MOST_FREE;
    private static final long BARRED = -1L << 62;

    private static final int ENTRY_CLASS = 11;
    private static final int ENTRY_EXHIBITOR = 12;
    private static final int ENTRY_STANDS = 13;

    private final Village village;
    private final Reader reader;
    private final Rules[] schedules;
    private Rules bookRules;
    private Rules planRules;
    private final Sheet sheet;
    private final Entries entries;
    private final Judges judges;
    private final Hall hall;
    private final Round dealing;
    private final Cards cards;
    private final CupSearch cupSearch;
    private final Shelf shelf;
    private final int[] freePieces;
    private final long[] bestWithin;
    private final int[] pickWithin;

    public VillageShow() {
        village = new Village();
        reader = new Reader();
        schedules = new Rules[CLASSES];
        bookRules = new Rules(0);
        planRules = new Rules(0);
        sheet = new Sheet();
        entries = new Entries();
        judges = new Judges();
        hall = new Hall();
        dealing = new Round();
        cards = new Cards();
        cupSearch = new CupSearch();
        shelf = new Shelf();
        freePieces = new int[MOST_FREE];
        bestWithin = new long[FREE_SETS];
        pickWithin = new int[FREE_SETS];
    }

    // ---- exhibitors and pieces

    public boolean exhibitor(int exhibitor, int house, int age, boolean won) {
        if (!within(exhibitor, 0, EXHIBITORS - 1) || !within(house, 0, HOUSES - 1) || !within(age, 1, 99)) {
            return false;
        }
        village.house[exhibitor] = house;
        village.age[exhibitor] = age;
        village.won[exhibitor] = won;
        return true;
    }

    public boolean piece(int piece, int exhibitor, int kind, int size, int grade) {
        if (!within(piece, 0, PIECES - 1) || !village.hasExhibitor(exhibitor) || !within(kind, 0, 9)) {
            return false;
        }
        if (!within(size, 1, 99) || !within(grade, 0, 9) || (entries.piecesThatStand() >> piece & 1) != 0) {
            return false;
        }
        village.owner[piece] = exhibitor;
        village.kind[piece] = kind;
        village.size[piece] = size;
        village.grade[piece] = grade;
        return true;
    }

    // ---- the tape and what is read from it

    public int feed(long a, long b, long c) {
        reader.append(a);
        reader.append(b);
        reader.append(c);
        return reader.length;
    }

    public int schedule(int kind) {
        if (!within(kind, 0, CLASSES - 1)) {
            reader.length = 0;
            return NONE;
        }
        int fault = reader.read(Reader.SCHEDULE);
        if (fault == 0) {
            schedules[kind] = reader.draft;
        }
        return fault;
    }

    public int book() {
        int fault = reader.read(Reader.BOOK);
        if (fault == 0) {
            bookRules = reader.draft;
        }
        return fault;
    }

    public int plan() {
        int fault = reader.read(Reader.PLAN);
        if (fault == 0) {
            planRules = reader.draft;
        }
        return fault;
    }

    // ---- entries

    public int entry(int kind, int exhibitor, long pieces, int jars) {
        if (scheduleOf(kind) == null || !village.hasExhibitor(exhibitor) || !within(jars, 0, 9)) {
            return NONE;
        }
        if (entries.size >= ENTRIES || !within(Long.bitCount(pieces), 1, MOST_PIECES)) {
            return NONE;
        }
        if ((pieces & ~village.piecesOf(exhibitor)) != 0 || (pieces & entries.piecesThatStand()) != 0) {
            return NONE;
        }
        return entries.add(kind, exhibitor, pieces, jars);
    }

    public int verdict(int entry) throws NoSuchElementException {
        if (!entries.has(entry)) {
            throw new NoSuchElementException("no such entry");
        }
        return wordOf(entry);
    }

    public int fact(int entry, int what) throws NoSuchElementException {
        if (!entries.has(entry) || !within(what, 0, ENTRY_STANDS)) {
            throw new NoSuchElementException("no such entry or fact");
        }
        if (what == ENTRY_CLASS) {
            return entries.kind[entry];
        }
        if (what == ENTRY_EXHIBITOR) {
            return entries.by[entry];
        }
        if (what == ENTRY_STANDS) {
            return entries.stands(entry) ? 1 : 0;
        }
        describeEntry(entry);
        return sheet.row[what];
    }

    public int clash(int kind, int what) {
        Rules rules = scheduleOf(kind);
        if (rules == null || rules.want == 0 || !within(what, 0, 1)) {
            return NONE;
        }
        sheet.describeModel(rules.want);
        int ages = 0;
        int word = NONE;
        for (int age = 1; age <= 99; age++) {
            sheet.row[Sheet.AGE] = age;
            int out = sheet.wordBy(rules, bookRules);
            if (out != NONE) {
                word = ages == 0 ? out : word;
                ages++;
            }
        }
        return what == 0 ? ages : word;
    }

    public boolean strike(int entry) {
        if (!entries.stands(entry)) {
            return false;
        }
        entries.standing &= ~(1L << entry);
        return true;
    }

    public boolean lost(int entry, int jars) {
        if (!entries.has(entry) || !within(jars, 0, entries.jars[entry])) {
            return false;
        }
        entries.jarsLost[entry] = jars;
        return true;
    }

    // ---- judges

    public boolean judge(int judge, int house) {
        if (!within(judge, 0, JUDGES - 1) || !within(house, 0, HOUSES - 1)) {
            return false;
        }
        judges.house[judge] = house;
        return true;
    }

    public boolean lean(int judge, int house, int n) {
        if (!judges.has(judge) || !within(house, 0, HOUSES - 1) || !within(n, -9, 9)) {
            return false;
        }
        judges.leans[judge * HOUSES + house] = n;
        return true;
    }

    public int kin(int judge, int kind) {
        if (!judges.has(judge) || scheduleOf(kind) == null) {
            return NONE;
        }
        return isKin(judge, kind) ? 1 : 0;
    }

    public int marks(int entry, int judge) throws NoSuchElementException {
        if (!entries.has(entry) || !judges.has(judge)) {
            throw new NoSuchElementException("no such entry or judge");
        }
        describeEntry(entry);
        return marksBy(judge, scheduleOf(entries.kind[entry]));
    }

    public int place(int entry, int judge) {
        if (!entries.stands(entry)) {
            return NONE;
        }
        int kind = entries.kind[entry];
        int by = judge == NONE ? judges.of[kind] : judge;
        return judges.has(by) ? placeBy(entry, by) : NONE;
    }

    public boolean judged(int kind, int judge) {
        if (scheduleOf(kind) == null) {
            return false;
        }
        if (judge != NONE && (!judges.has(judge) || isKin(judge, kind))) {
            return false;
        }
        judges.of[kind] = judge;
        return true;
    }

    public int span(int entry, int what) {
        if (!entries.stands(entry) || !within(what, 0, 1)) {
            return NONE;
        }
        int found = NONE;
        for (int judge = 0; judge < JUDGES; judge++) {
            if (!judges.has(judge) || isKin(judge, entries.kind[entry])) {
                continue;
            }
            int its = placeBy(entry, judge);
            if (found == NONE || (what == 0 ? its < found : its > found)) {
                found = its;
            }
        }
        return found;
    }

    // ---- tables and rounds

    public boolean table(int table, int feet) {
        if (!within(table, 0, TABLES - 1) || !within(feet, 0, 99)) {
            return false;
        }
        hall.feet[table] = feet;
        return true;
    }

    public boolean lay(int kind, int table, int foot) {
        if (scheduleOf(kind) == null || !within(table, 0, TABLES - 1) || !within(foot, 0, 9)) {
            return false;
        }
        hall.home[kind] = table;
        hall.foot[kind] = foot;
        return true;
    }

    public int taken(int table, boolean guessed) {
        if (!within(table, 0, TABLES - 1)) {
            return NONE;
        }
        measure(guessed);
        int sum = 0;
        for (int kind = 0; kind < CLASSES; kind++) {
            if (hall.home[kind] == table && hall.takes[kind] > 0) {
                sum += hall.takes[kind];
            }
        }
        return sum;
    }

    public int moves(boolean guessed, int what) {
        if (!within(what, 0, CLASSES) || (what > 0 && scheduleOf(what - 1) == null)) {
            return NONE;
        }
        measure(guessed);
        int fewest = hall.fewestMoves();
        return what == 0 || fewest == NONE ? fewest : hall.put[what - 1];
    }

    public boolean cap(int n) {
        if (!within(n, 1, 10)) {
            return false;
        }
        judges.most = n;
        return true;
    }

    public int round(int what) {
        if (!within(what, 0, CLASSES)) {
            return NONE;
        }
        for (int kind = 0; kind < CLASSES; kind++) {
            boolean held = scheduleOf(kind) != null && entries.standingIn(kind) > 0;
            dealing.choice[kind] = held ? judgesFor(kind) : NONE;
            dealing.at[kind] = hall.home[kind];
        }
        int walks = dealing.leastWalks(judges.most);
        return what == 0 || walks == NONE ? walks : dealing.dealt[what - 1];
    }

    // ---- points, the cup, protests and money

    public boolean prize(int place, int points, int money) {
        if (!within(place, 1, PLACES) || !within(points, 0, 99) || !within(money, 0, 999)) {
            return false;
        }
        cards.pointsFor[place - 1] = points;
        cards.moneyFor[place - 1] = money;
        return true;
    }

    public boolean fees(int fee, int jar) {
        if (!within(fee, 0, 99) || !within(jar, 0, 99)) {
            return false;
        }
        cards.fee = fee;
        cards.jarFee = jar;
        return true;
    }

    public int points(boolean house, int which) {
        if (house ? !within(which, 0, HOUSES - 1) : !village.hasExhibitor(which)) {
            return NONE;
        }
        sumUp();
        int sum = 0;
        for (int who = 0; who < EXHIBITORS; who++) {
            if (house ? village.house[who] == which : who == which) {
                sum += cards.points[who];
            }
        }
        return sum;
    }

    public int cup() {
        sumUp();
        return leaders();
    }

    public int can(int exhibitor) {
        if (!village.hasExhibitor(exhibitor) || !listOpenClasses(exhibitor)) {
            return NONE;
        }
        if (village.won[exhibitor]) {
            return 0;
        }
        sumUp();
        for (int who = 0; who < EXHIBITORS; who++) {
            boolean rival = village.hasExhibitor(who) && !village.won[who];
            cupSearch.points[who] = rival ? cards.points[who] : 0;
            cupSearch.firsts[who] = rival ? cards.firsts[who] : 0;
        }
        return cupSearch.canLead(exhibitor, cards.pointsFor) ? 1 : 0;
    }

    public int protest(int entry, int what) {
        if (!entries.stands(entry) || !within(what, 0, 1)) {
            return NONE;
        }
        long standing = entries.standing;
        int answer;
        if (what == 0) {
            rankIfJudged(entries.kind[entry]);
            cards.keepPlaces();
            entries.standing = standing & ~(1L << entry);
            rankIfJudged(entries.kind[entry]);
            answer = cards.changedBut(entry);
        } else {
            entries.standing = standing & ~(1L << entry);
            sumUp();
            answer = leaders();
        }
        entries.standing = standing;
        return answer;
    }

    public int money(int exhibitor) throws NoSuchElementException {
        if (!village.hasExhibitor(exhibitor)) {
            throw new NoSuchElementException("no such exhibitor");
        }
        sumUp();
        int sum = cards.money[exhibitor];
        for (int entry = 0; entry < entries.size; entry++) {
            if (entries.by[entry] == exhibitor) {
                sum -= cards.fee + cards.jarFee * entries.jarsLost[entry];
            }
        }
        return sum;
    }

    // ---- the best sets of a garden

    public long sets(int exhibitor, int a, int b, int what) throws NoSuchElementException {
        Rules first = scheduleOf(a);
        Rules second = scheduleOf(b);
        if (first == null || second == null || a == b || !within(what, 0, 2) || !village.hasExhibitor(exhibitor)) {
            throw new NoSuchElementException("no such exhibitor, classes or question");
        }
        int free = listFreePieces(exhibitor);
        if (free > MOST_FREE) {
            throw new NoSuchElementException("too many pieces");
        }
        int all = (1 << free) - 1;
        fillBestWithin(exhibitor, b, second, all);
        long best = BARRED;
        int chosen = 0;
        for (int set = 0; set <= all; set++) {
            long worth = worthOf(exhibitor, a, first, set);
            if (worth != BARRED && worth + bestWithin[all & ~set] > best) {
                best = worth + bestWithin[all & ~set];
                chosen = set;
            }
        }
        if (what == 0) {
            return best;
        }
        return bitsOf(what == 1 ? chosen : pickWithin[all & ~chosen]);
    }

    // ---- years and the plan

    public boolean year(int kind, int year, int n) {
        if (!within(kind, 0, CLASSES - 1) || !within(year, 0, YEARS - 1) || !within(n, NONE, 99)) {
            return false;
        }
        hall.years[kind * YEARS + year] = n;
        return true;
    }

    public int planned(int kind, int what) {
        Rules rules = scheduleOf(kind);
        if (rules == null || !within(what, 0, 1)) {
            return NONE;
        }
        return what == 0 ? fateOf(kind, rules) : partnerOf(kind, rules.kind);
    }

    // ---- marks laid and counts

    public boolean mark(int mark, boolean back) {
        if (!within(mark, 0, SHELVES - 1) || (back && !shelf.holds(mark))) {
            return false;
        }
        if (back) {
            shelf.bringBack(mark, entries, judges);
        } else {
            shelf.put(mark, entries, judges);
        }
        return true;
    }

    public int count(int what) {
        switch (what) {
            case 0: return village.exhibitorsTold();
            case 1: return village.piecesTold();
            case 2: return classesTold();
            case 3: return entries.size;
            case 4: return Long.bitCount(entries.standing);
            case 5: return standingOut();
            case 6: return judges.classesJudged();
            case 7: return judges.judgesTold();
            case 8: return bookRules.bars;
            case 9: return reader.length;
            case 10: return entries.allJarsLost();
            default: return NONE;
        }
    }

    // ---- what the face is made of

    private static boolean within(int n, int least, int most) {
        return n >= least && n <= most;
    }

    /** Null for a class that is not told, so that no caller has to look at the number itself. */
    private Rules scheduleOf(int kind) {
        return within(kind, 0, CLASSES - 1) ? schedules[kind] : null;
    }

    private int classesTold() {
        int told = 0;
        for (int kind = 0; kind < CLASSES; kind++) {
            told += schedules[kind] != null ? 1 : 0;
        }
        return told;
    }

    private int standingOut() {
        int out = 0;
        for (int entry = 0; entry < entries.size; entry++) {
            out += entries.stands(entry) && wordOf(entry) != NONE ? 1 : 0;
        }
        return out;
    }

    /** The facts are taken anew each time: exhibitors, pieces and schedules may be told again under an entry. */
    private void describeEntry(int entry) {
        int kind = entries.kind[entry];
        int by = entries.by[entry];
        sheet.describePieces(village, entries.pieces[entry], scheduleOf(kind));
        sheet.describeExhibitor(village, by, entries.standingOf(by, kind));
    }

    private int wordOf(int entry) {
        describeEntry(entry);
        return sheet.wordBy(scheduleOf(entries.kind[entry]), bookRules);
    }

    /** For the entry that the sheet describes now. */
    private int marksBy(int judge, Rules rules) {
        return sheet.value(rules, Rules.MARKS) + judges.leans[judge * HOUSES + sheet.row[Sheet.HOUSE]];
    }

    private boolean isKin(int judge, int kind) {
        for (int entry = 0; entry < entries.size; entry++) {
            if (entries.standsIn(entry, kind) && village.house[entries.by[entry]] == judges.house[judge]) {
                return true;
            }
        }
        return false;
    }

    private int judgesFor(int kind) {
        int bits = 0;
        for (int judge = 0; judge < JUDGES; judge++) {
            bits |= judges.has(judge) && !isKin(judge, kind) ? 1 << judge : 0;
        }
        return bits;
    }

    private int placeBy(int entry, int judge) {
        rank(entries.kind[entry], judge);
        return cards.place[entry] > 0 ? cards.place[entry] : NONE;
    }

    /** Afterwards the cards show the places of this class alone: entries of others have none there. */
    private void rank(int kind, int judge) {
        Rules rules = scheduleOf(kind);
        cards.clearPlaces();
        for (int entry = 0; entry < entries.size; entry++) {
            if (!entries.standsIn(entry, kind)) {
                continue;
            }
            describeEntry(entry);
            if (sheet.wordBy(rules, bookRules) == NONE) {
                cards.enter(entry, marksBy(judge, rules), sheet.value(rules, Rules.TIE));
            }
        }
        cards.givePlaces(entries.size);
    }

    private void rankIfJudged(int kind) {
        if (judges.of[kind] == NONE) {
            cards.clearPlaces();
        } else {
            rank(kind, judges.of[kind]);
        }
    }

    private void sumUp() {
        cards.clearSums();
        for (int kind = 0; kind < CLASSES; kind++) {
            if (judges.of[kind] == NONE) {
                continue;
            }
            rank(kind, judges.of[kind]);
            for (int entry = 0; entry < entries.size; entry++) {
                cards.reward(entries.by[entry], cards.place[entry]);
            }
        }
    }

    /** By the sums as they stand on the cards. */
    private int leaders() {
        int bits = 0;
        int most = 0;
        int firsts = 0;
        for (int who = 0; who < EXHIBITORS; who++) {
            if (!village.hasExhibitor(who) || village.won[who] || cards.points[who] <= 0) {
                continue;
            }
            int ahead = Integer.compare(cards.points[who], most);
            if (ahead == 0) {
                ahead = Integer.compare(cards.firsts[who], firsts);
            }
            if (ahead > 0) {
                most = cards.points[who];
                firsts = cards.firsts[who];
                bits = 0;
            }
            bits |= ahead >= 0 ? 1 << who : 0;
        }
        return bits;
    }

    /** False if there are too many classes or entries that are still open. */
    private boolean listOpenClasses(int exhibitor) {
        cupSearch.classes = 0;
        for (int kind = 0; kind < CLASSES; kind++) {
            if (judges.of[kind] != NONE) {
                continue;
            }
            int found = listOpenEntries(kind, exhibitor);
            if (found > CupSearch.MOST_ENTRIES || (found > 0 && cupSearch.classes >= CupSearch.MOST_CLASSES)) {
                return false;
            }
            if (found > 0) {
                cupSearch.keepClass(found);
            }
        }
        return true;
    }

    /** The exhibitor's own entries come first: the search finds a way for them sooner so. */
    private int listOpenEntries(int kind, int exhibitor) {
        int found = 0;
        for (int turn = 0; turn < 2; turn++) {
            for (int entry = 0; entry < entries.size; entry++) {
                int by = entries.by[entry];
                if ((by == exhibitor) != (turn == 0) || !entries.standsIn(entry, kind)) {
                    continue;
                }
                describeEntry(entry);
                if (sheet.wordBy(scheduleOf(kind), bookRules) == NONE) {
                    cupSearch.listEntry(found, village.won[by] ? CupSearch.NOBODY : by);
                    found++;
                }
            }
        }
        return found;
    }

    private void measure(boolean guessed) {
        for (int kind = 0; kind < CLASSES; kind++) {
            int many = guessed ? hall.mostIn(kind) : entries.standingIn(kind);
            hall.takes[kind] = scheduleOf(kind) == null ? NONE : hall.foot[kind] * many;
        }
    }

    /** How many there are; only the first ten are kept, as more are refused. */
    private int listFreePieces(int exhibitor) {
        long free = village.piecesOf(exhibitor) & ~entries.piecesThatStand();
        int found = 0;
        for (int piece = 0; piece < PIECES; piece++) {
            if ((free >> piece & 1) != 0) {
                if (found < MOST_FREE) {
                    freePieces[found] = piece;
                }
                found++;
            }
        }
        return found;
    }

    private long bitsOf(int set) {
        long bits = 0;
        for (int i = 0; i < MOST_FREE; i++) {
            bits |= (set >> i & 1) != 0 ? 1L << freePieces[i] : 0L;
        }
        return bits;
    }

    private long worthOf(int exhibitor, int kind, Rules rules, int set) {
        if (set == 0) {
            return 0;
        }
        if (Integer.bitCount(set) > MOST_PIECES) {
            return BARRED;
        }
        sheet.describePieces(village, bitsOf(set), rules);
        sheet.describeExhibitor(village, exhibitor, entries.standingOf(exhibitor, kind) + 1);
        return sheet.wordBy(rules, bookRules) == NONE ? sheet.value(rules, Rules.MARKS) : BARRED;
    }

    /** Each set's best part is itself or the best of what is left without one piece: no pair of sets is tried twice. */
    private void fillBestWithin(int exhibitor, int kind, Rules rules, int all) {
        for (int set = 0; set <= all; set++) {
            long best = worthOf(exhibitor, kind, rules, set);
            int pick = set;
            for (int i = 0; i < MOST_FREE; i++) {
                int less = set & ~(1 << i);
                if (less == set || bestWithin[less] < best) {
                    continue;
                }
                if (bestWithin[less] > best || pickWithin[less] < pick) {
                    best = bestWithin[less];
                    pick = pickWithin[less];
                }
            }
            bestWithin[set] = best;
            pickWithin[set] = pick;
        }
    }

    private int fateOf(int kind, Rules rules) {
        sheet.describeClass(hall, kind, entries.standingIn(kind), rules);
        for (int line = Rules.DROP; line <= Rules.JOIN; line++) {
            if (sheet.value(planRules, line) != 0) {
                return 1 + line - Rules.DROP;
            }
        }
        return 0;
    }

    private int partnerOf(int kind, int wanted) {
        int waiting = NONE;
        for (int other = 0; other < CLASSES; other++) {
            Rules rules = scheduleOf(other);
            if (rules == null || rules.kind != wanted || fateOf(other, rules) != JOINED) {
                continue;
            }
            if (waiting == NONE) {
                waiting = other;
                continue;
            }
            if (waiting == kind || other == kind) {
                return waiting == kind ? other : waiting;
            }
            waiting = NONE;
        }
        return NONE;
    }

    /** Who shows, and what grows in their gardens. */
    private static final class Village {
        final int[] house = new int[EXHIBITORS];
        final int[] age = new int[EXHIBITORS];
        final boolean[] won = new boolean[EXHIBITORS];
        final int[] owner = new int[PIECES];
        final int[] kind = new int[PIECES];
        final int[] size = new int[PIECES];
        final int[] grade = new int[PIECES];

        Village() {
            Arrays.fill(house, NONE);
            Arrays.fill(owner, NONE);
        }

        boolean hasExhibitor(int exhibitor) {
            return within(exhibitor, 0, EXHIBITORS - 1) && house[exhibitor] != NONE;
        }

        int exhibitorsTold() {
            int told = 0;
            for (int who = 0; who < EXHIBITORS; who++) {
                told += house[who] != NONE ? 1 : 0;
            }
            return told;
        }

        int piecesTold() {
            int told = 0;
            for (int piece = 0; piece < PIECES; piece++) {
                told += owner[piece] != NONE ? 1 : 0;
            }
            return told;
        }

        long piecesOf(int exhibitor) {
            long bits = 0;
            for (int piece = 0; piece < PIECES; piece++) {
                bits |= owner[piece] == exhibitor ? 1L << piece : 0L;
            }
            return bits;
        }
    }

    /** The entries in the order in which they were told; which of them stand is kept as bits. */
    private static final class Entries {
        int size;
        long standing;
        final int[] kind = new int[ENTRIES];
        final int[] by = new int[ENTRIES];
        final long[] pieces = new long[ENTRIES];
        final int[] jars = new int[ENTRIES];
        final int[] jarsLost = new int[ENTRIES];

        int add(int itsKind, int exhibitor, long itsPieces, int itsJars) {
            int entry = size;
            if (entry >= ENTRIES) {
                return NONE;
            }
            kind[entry] = itsKind;
            by[entry] = exhibitor;
            pieces[entry] = itsPieces;
            jars[entry] = itsJars;
            jarsLost[entry] = 0;
            standing |= 1L << entry;
            size++;
            return entry;
        }

        boolean has(int entry) {
            return entry >= 0 && entry < size && entry < ENTRIES;
        }

        boolean stands(int entry) {
            return has(entry) && (standing >> entry & 1) != 0;
        }

        boolean standsIn(int entry, int itsKind) {
            return has(entry) && (standing >> entry & 1) != 0 && kind[entry] == itsKind;
        }

        int standingIn(int itsKind) {
            int found = 0;
            for (int entry = 0; entry < size; entry++) {
                found += standsIn(entry, itsKind) ? 1 : 0;
            }
            return found;
        }

        int standingOf(int exhibitor, int itsKind) {
            int found = 0;
            for (int entry = 0; entry < size; entry++) {
                found += standsIn(entry, itsKind) && by[entry] == exhibitor ? 1 : 0;
            }
            return found;
        }

        long piecesThatStand() {
            long bits = 0;
            for (int entry = 0; entry < size; entry++) {
                bits |= stands(entry) ? pieces[entry] : 0L;
            }
            return bits;
        }

        int allJarsLost() {
            int sum = 0;
            for (int entry = 0; entry < size; entry++) {
                sum += jarsLost[entry];
            }
            return sum;
        }
    }

    /** What was read from a tape: a schedule, the book or the plan. Each line's expression is a stretch of code. */
    private static final class Rules {
        static final int BARS = 6;
        static final int MARKS = 6;
        static final int TIE = 7;
        static final int DROP = 8;
        static final int SPLIT = 9;
        static final int JOIN = 10;
        static final int LINES = 11;

        static final int FACT = 10000;
        static final int NOT = 20000;
        static final int AND = 20001;
        static final int OR = 20002;
        static final int LESS = 20003;
        static final int EQUAL = 20004;
        static final int PLUS = 20005;
        static final int MINUS = 20006;
        static final int TIMES = 20007;

        int want;
        int kind = NO_KIND;
        int bars;
        final int[] words = new int[BARS];
        final int[] from = new int[LINES];
        final int[] to = new int[LINES];
        final int[] code;
        int length;

        /** No text has more steps than signs. */
        Rules(int signs) {
            code = new int[signs >= 0 ? signs : 0];
            Arrays.fill(from, NONE);
        }

        boolean hasLine(int line) {
            return line >= 0 && line < LINES && from[line] != NONE;
        }

        void begin(int line) {
            if (line >= 0 && line < LINES) {
                from[line] = length;
            }
        }

        void end(int line) {
            if (line >= 0 && line < LINES) {
                to[line] = length;
            }
        }

        void add(int step) {
            if (length < code.length) {
                code[length] = step;
                length++;
            }
        }
    }

    /** The facts of one entry, or of one class for the plan, and what expressions make of them. */
    private static final class Sheet {
        static final int COUNT = 0;
        static final int KINDS = 1;
        static final int ODD = 2;
        static final int SIZE = 3;
        static final int SPREAD = 4;
        static final int GRADE = 5;
        static final int WORST = 6;
        static final int AGE = 7;
        static final int HOUSE = 8;
        static final int WON = 9;
        static final int OWN_ENTRIES = 10;
        static final int FACTS = 11;
        /** Four values wait at each of five depths at most, and one is at hand. */
        static final int DEEPEST = 32;

        final int[] row = new int[FACTS];
        private final int[] stack = new int[DEEPEST];

        void describePieces(Village village, long pieces, Rules rules) {
            int wanted = rules == null ? NO_KIND : rules.kind;
            int kinds = 0;
            int least = 99;
            int most = 1;
            Arrays.fill(row, 0);
            row[WORST] = 9;
            for (int piece = 0; piece < PIECES; piece++) {
                if ((pieces >> piece & 1) == 0) {
                    continue;
                }
                row[COUNT]++;
                kinds |= 1 << village.kind[piece];
                row[ODD] += wanted != NO_KIND && village.kind[piece] != wanted ? 1 : 0;
                row[SIZE] += village.size[piece];
                least = Math.min(least, village.size[piece]);
                most = Math.max(most, village.size[piece]);
                row[GRADE] += village.grade[piece];
                row[WORST] = Math.min(row[WORST], village.grade[piece]);
            }
            row[KINDS] = Integer.bitCount(kinds);
            row[SPREAD] = most - least;
        }

        void describeExhibitor(Village village, int exhibitor, int ownEntries) {
            row[AGE] = village.age[exhibitor];
            row[HOUSE] = village.house[exhibitor];
            row[WON] = village.won[exhibitor] ? 1 : 0;
            row[OWN_ENTRIES] = ownEntries;
        }

        /** What a class asks for at its plainest: only the age is left to be put in. */
        void describeModel(int pieces) {
            Arrays.fill(row, 0);
            row[COUNT] = pieces;
            row[KINDS] = 1;
            row[SIZE] = 50 * pieces;
            row[GRADE] = 9 * pieces;
            row[WORST] = 9;
            row[OWN_ENTRIES] = 1;
        }

        /** In the order of the words in Reader.PLAN_FACTS. */
        void describeClass(Hall hall, int kind, int now, Rules rules) {
            int told = hall.yearsTold(kind);
            row[0] = now;
            row[1] = Math.max(hall.years[kind * YEARS], 0);
            row[2] = hall.mostIn(kind);
            row[3] = hall.leastIn(kind);
            row[4] = told > 0 ? hall.sumOf(kind) / told : 0;
            row[5] = told;
            row[6] = rules.kind;
            row[7] = rules.want;
        }

        /** NONE if neither the class nor the book bars what is described. */
        int wordBy(Rules rules, Rules book) {
            if (rules == null) {
                return NONE;
            }
            if (rules.want > 0 && (row[COUNT] != rules.want || row[ODD] > 0)) {
                return NOT_AS_WANTED;
            }
            int word = firstBar(rules);
            return word != NONE ? word : firstBar(book);
        }

        private int firstBar(Rules rules) {
            int bars = rules == null ? 0 : Math.min(rules.bars, Rules.BARS);
            for (int bar = 0; bar < bars; bar++) {
                if (value(rules, bar) != 0) {
                    return rules.words[bar];
                }
            }
            return NONE;
        }

        /** 0 for a line that is not there. */
        int value(Rules rules, int line) {
            if (rules == null || !rules.hasLine(line)) {
                return 0;
            }
            int top = 0;
            int end = Math.min(rules.to[line], rules.code.length);
            for (int i = rules.from[line]; i < end; i++) {
                int step = rules.code[i];
                if (step < Rules.NOT) {
                    if (top < DEEPEST) {
                        stack[top] = step < Rules.FACT ? step : row[step - Rules.FACT];
                        top++;
                    }
                } else if (step == Rules.NOT) {
                    if (top >= 1) {
                        stack[top - 1] = stack[top - 1] == 0 ? 1 : 0;
                    }
                } else if (top >= 2) {
                    top--;
                    stack[top - 1] = join(step, stack[top - 1], stack[top]);
                }
            }
            return top > 0 ? stack[0] : 0;
        }

        private static int join(int step, int left, int right) {
            switch (step) {
                case Rules.AND: return left != 0 && right != 0 ? 1 : 0;
                case Rules.OR: return left != 0 || right != 0 ? 1 : 0;
                case Rules.LESS: return left < right ? 1 : 0;
                case Rules.EQUAL: return left == right ? 1 : 0;
                case Rules.PLUS: return left + right;
                case Rules.MINUS: return left - right;
                default: return left * right;
            }
        }
    }

    /** The tape, its tokens, and the reading of the three kinds of text into rules. */
    private static final class Reader {
        static final int SCHEDULE = 0;
        static final int BOOK = 1;
        static final int PLAN = 2;

        private static final int TAPE = 1000;
        private static final int WORD_LETTERS = 8;
        private static final int NUMBER_DIGITS = 4;
        private static final int DEPTH = 5;

        private static final int END = 0;
        private static final int WORD = 1;
        private static final int NUMBER = 2;
        private static final int SIGN = 3;
        private static final int NOTHING = 4;

        private static final int MISPLACED = 1;
        private static final int AGAIN = 3;
        private static final int BAD_NUMBER = 4;
        private static final int TOO_MANY = 5;

        /** Each word in a column of eight signs; the columns of facts are the facts' numbers. */
        private static final String ENTRY_FACTS =
            "pieces  kinds   odd     size    spread  grade   worst   age     house   won     entries ";
        private static final String PLAN_FACTS =
            "now     last    most    least   mean    years   kind    wanted  ";
        private static final String LINE_WORDS =
            "want    bar     marks   tie     drop    split   join    ";
        private static final int WANT_WORD = 0;
        private static final int BAR_WORD = 1;
        /** By columns of LINE_WORDS: in which texts, as bits, the word may begin a line; and which line that is. */
        private static final int[] TEXTS_OF = {1, 3, 1, 1, 4, 4, 4};
        private static final int[] LINE_OF = {NONE, NONE, Rules.MARKS, Rules.TIE, Rules.DROP, Rules.SPLIT, Rules.JOIN};

        final byte[] tape = new byte[TAPE];
        int length;
        Rules draft = new Rules(0);
        private int fault;
        private int next;
        private int at;
        private int type;
        private int number;
        private String facts = ENTRY_FACTS;

        void append(long signs) {
            for (int shift = 56; shift >= 0; shift -= 8) {
                int sign = (int) (signs >>> shift & 255);
                if ((sign == 10 || (sign >= 32 && sign <= 126)) && length < TAPE) {
                    tape[length] = (byte) sign;
                    length++;
                }
            }
        }

        /** The fault, or 0 and the rules are in the draft. The tape is empty afterwards. */
        int read(int text) {
            draft = new Rules(length);
            facts = text == PLAN ? PLAN_FACTS : ENTRY_FACTS;
            fault = 0;
            next = 0;
            step();
            for (int lines = 0; lines < TAPE && fault == 0 && type != END; lines++) {
                readLine(text);
            }
            length = 0;
            return fault;
        }

        private void readLine(int text) {
            int word = columnIn(LINE_WORDS);
            if (word == NONE || (TEXTS_OF[word] >> text & 1) == 0) {
                fail(MISPLACED);
                return;
            }
            if (word == WANT_WORD) {
                readWant();
            } else {
                int line = word == BAR_WORD ? readBar() : readRule(LINE_OF[word], text == PLAN);
                draft.begin(line);
                readExpression(0);
                draft.end(line);
            }
            expectSign(';');
        }

        private void readWant() {
            if (draft.want > 0) {
                fail(AGAIN);
            }
            step();
            draft.want = readNumber(1, MOST_PIECES);
            expectWord("kind");
            draft.kind = readNumber(0, 9);
        }

        /** The head of a bar, up to its expression: which line it is. */
        private int readBar() {
            int bar = draft.bars;
            if (bar >= Rules.BARS) {
                fail(TOO_MANY);
                return NONE;
            }
            step();
            draft.words[bar] = readNumber(0, 99);
            draft.bars++;
            expectWord("when");
            return bar;
        }

        private int readRule(int line, boolean when) {
            if (draft.hasLine(line)) {
                fail(AGAIN);
            }
            step();
            if (when) {
                expectWord("when");
            }
            return line;
        }

        private void readExpression(int depth) {
            readTest(depth);
            for (int i = 0; i < TAPE && (isWord("and") || isWord("or")); i++) {
                int join = isWord("and") ? Rules.AND : Rules.OR;
                step();
                readTest(depth);
                draft.add(join);
            }
        }

        private void readTest(int depth) {
            readSum(depth);
            if (isSign('<') || isSign('=')) {
                int join = isSign('<') ? Rules.LESS : Rules.EQUAL;
                step();
                readSum(depth);
                draft.add(join);
            }
        }

        private void readSum(int depth) {
            readProduct(depth);
            for (int i = 0; i < TAPE && (isSign('+') || isSign('-')); i++) {
                int join = isSign('+') ? Rules.PLUS : Rules.MINUS;
                step();
                readProduct(depth);
                draft.add(join);
            }
        }

        private void readProduct(int depth) {
            readPart(depth);
            for (int i = 0; i < TAPE && isSign('*'); i++) {
                step();
                readPart(depth);
                draft.add(Rules.TIMES);
            }
        }

        /** A token that can begin no part is misplaced at any depth: the least fault counts. */
        private void readPart(int depth) {
            int fact = columnIn(facts);
            if (type != NUMBER && fact == NONE && !isWord("not") && !isSign('(')) {
                fail(MISPLACED);
            } else if (depth >= DEPTH) {
                fail(TOO_MANY);
            } else if (type == NUMBER) {
                draft.add(number);
                step();
            } else if (fact != NONE) {
                draft.add(Rules.FACT + fact);
                step();
            } else if (isWord("not")) {
                step();
                readPart(depth + 1);
                draft.add(Rules.NOT);
            } else {
                step();
                readExpression(depth + 1);
                expectSign(')');
            }
        }

        private int readNumber(int least, int most) {
            int n = number;
            if (type != NUMBER) {
                fail(MISPLACED);
            } else if (!within(n, least, most)) {
                fail(BAD_NUMBER);
            }
            step();
            return n;
        }

        private void expectWord(String word) {
            if (!isWord(word)) {
                fail(MISPLACED);
            }
            step();
        }

        private void expectSign(char sign) {
            if (!isSign(sign)) {
                fail(MISPLACED);
            }
            step();
        }

        /** Only the first fault counts. No token stands behind it, so that all that reads on comes to its end. */
        private void fail(int kind) {
            if (fault == 0) {
                fault = kind + 16 * at;
            }
            type = NOTHING;
        }

        private boolean isWord(String word) {
            return type == WORD && isAt(word, 0, word.length());
        }

        private boolean isSign(char sign) {
            return type == SIGN && tape[at] == sign;
        }

        private int columnIn(String words) {
            if (type != WORD) {
                return NONE;
            }
            for (int column = 0; (column + 1) * WORD_LETTERS <= words.length(); column++) {
                int start = column * WORD_LETTERS;
                int end = start;
                for (int i = 0; i < WORD_LETTERS && words.charAt(start + i) != ' '; i++) {
                    end++;
                }
                if (isAt(words, start, end)) {
                    return column;
                }
            }
            return NONE;
        }

        private boolean isAt(String words, int start, int end) {
            if (next - at != end - start) {
                return false;
            }
            for (int i = start; i < end; i++) {
                if (tape[at + i - start] != words.charAt(i)) {
                    return false;
                }
            }
            return true;
        }

        private void step() {
            if (fault != 0) {
                return;
            }
            at = next;
            for (int i = next; i < length && (tape[i] == ' ' || tape[i] == 10); i++) {
                at = i + 1;
            }
            next = at;
            if (at >= length) {
                type = END;
            } else if (tape[at] >= 'a' && tape[at] <= 'z') {
                takeWord();
            } else if (tape[at] >= '0' && tape[at] <= '9') {
                takeNumber();
            } else {
                next = at + 1;
                type = "()<=+-*;".indexOf((char) tape[at]) >= 0 ? SIGN : NOTHING;
            }
        }

        private void takeWord() {
            for (int i = at; i < length && tape[i] >= 'a' && tape[i] <= 'z'; i++) {
                next = i + 1;
            }
            type = next - at <= WORD_LETTERS ? WORD : NOTHING;
        }

        private void takeNumber() {
            number = 0;
            for (int i = at; i < length && tape[i] >= '0' && tape[i] <= '9'; i++) {
                number = number * 10 + (tape[i] - '0');
                next = i + 1;
            }
            type = next - at <= NUMBER_DIGITS ? NUMBER : NOTHING;
        }
    }

    /** The judges, and by whom classes are judged. */
    private static final class Judges {
        final int[] house = new int[JUDGES];
        final int[] leans = new int[JUDGES * HOUSES];
        final int[] of = new int[CLASSES];
        int most = 4;

        Judges() {
            Arrays.fill(house, NONE);
            Arrays.fill(of, NONE);
        }

        boolean has(int judge) {
            return within(judge, 0, JUDGES - 1) && house[judge] != NONE;
        }

        int judgesTold() {
            int told = 0;
            for (int judge = 0; judge < JUDGES; judge++) {
                told += house[judge] != NONE ? 1 : 0;
            }
            return told;
        }

        int classesJudged() {
            int found = 0;
            for (int kind = 0; kind < CLASSES; kind++) {
                found += of[kind] != NONE ? 1 : 0;
            }
            return found;
        }
    }

    /** Tables, what classes take of them, former years, and the search for the fewest moves. */
    private static final class Hall {
        final int[] feet = new int[TABLES];
        final int[] home = new int[CLASSES];
        final int[] foot = new int[CLASSES];
        final int[] years = new int[CLASSES * YEARS];
        /** NONE for a class that is not told. */
        final int[] takes = new int[CLASSES];
        final int[] put = new int[CLASSES];
        private final int[] room = new int[TABLES];

        Hall() {
            Arrays.fill(foot, 1);
            Arrays.fill(years, NONE);
        }

        int yearsTold(int kind) {
            int told = 0;
            for (int year = 0; year < YEARS; year++) {
                told += years[kind * YEARS + year] != NONE ? 1 : 0;
            }
            return told;
        }

        int sumOf(int kind) {
            int sum = 0;
            for (int year = 0; year < YEARS; year++) {
                sum += Math.max(years[kind * YEARS + year], 0);
            }
            return sum;
        }

        int mostIn(int kind) {
            int most = 0;
            for (int year = 0; year < YEARS; year++) {
                most = Math.max(most, years[kind * YEARS + year]);
            }
            return most;
        }

        int leastIn(int kind) {
            int least = NONE;
            for (int year = 0; year < YEARS; year++) {
                int n = years[kind * YEARS + year];
                if (n != NONE && (least == NONE || n < least)) {
                    least = n;
                }
            }
            return Math.max(least, 0);
        }

        /** The number of moves is raised step by step: so the first way found is the fewest's first one. */
        int fewestMoves() {
            int wanted = 0;
            for (int kind = 0; kind < CLASSES; kind++) {
                wanted += Math.max(takes[kind], 0);
            }
            if (wanted > feet[0] + feet[1] + feet[2]) {
                return NONE;
            }
            for (int most = 0; most <= CLASSES; most++) {
                System.arraycopy(feet, 0, room, 0, TABLES);
                if (putFrom(0, most)) {
                    return most;
                }
            }
            return NONE;
        }

        private boolean putFrom(int kind, int movesLeft) {
            if (kind >= CLASSES) {
                return true;
            }
            if (takes[kind] == NONE) {
                return putFrom(kind + 1, movesLeft);
            }
            for (int table = 0; table < TABLES; table++) {
                int cost = table == home[kind] ? 0 : 1;
                if (cost > movesLeft || takes[kind] > room[table]) {
                    continue;
                }
                put[kind] = table;
                room[table] -= takes[kind];
                if (putFrom(kind + 1, movesLeft - cost)) {
                    return true;
                }
                room[table] += takes[kind];
            }
            return false;
        }
    }

    /** The dealing of classes to judges with the least walking. */
    private static final class Round {
        private static final int FARTHEST = JUDGES * (TABLES - 1);

        /** Judges as bits; NONE for a class that is not dealt. */
        final int[] choice = new int[CLASSES];
        final int[] at = new int[CLASSES];
        final int[] dealt = new int[CLASSES];
        private final int[] load = new int[JUDGES];
        private final int[] low = new int[JUDGES];
        private final int[] high = new int[JUDGES];
        private int cap;

        int leastWalks(int most) {
            cap = most;
            Arrays.fill(dealt, NONE);
            if (!hasWay()) {
                return NONE;
            }
            for (int walks = 0; walks <= FARTHEST; walks++) {
                Arrays.fill(load, 0);
                if (dealFrom(0, walks)) {
                    return walks;
                }
            }
            return NONE;
        }

        /** There is one if no group of judges has more classes that only they may judge than they can take. */
        private boolean hasWay() {
            for (int group = 0; group < 1 << JUDGES; group++) {
                int theirs = 0;
                for (int kind = 0; kind < CLASSES; kind++) {
                    theirs += choice[kind] != NONE && (choice[kind] & ~group) == 0 ? 1 : 0;
                }
                if (theirs > cap * Integer.bitCount(group)) {
                    return false;
                }
            }
            return true;
        }

        private boolean dealFrom(int kind, int walksLeft) {
            if (kind >= CLASSES) {
                return true;
            }
            if (choice[kind] == NONE) {
                return dealFrom(kind + 1, walksLeft);
            }
            for (int judge = 0; judge < JUDGES; judge++) {
                if ((choice[kind] >> judge & 1) != 0 && load[judge] < cap && dealTo(judge, kind, walksLeft)) {
                    return true;
                }
            }
            return false;
        }

        private boolean dealTo(int judge, int kind, int walksLeft) {
            int oldLow = low[judge];
            int oldHigh = high[judge];
            boolean first = load[judge] == 0;
            int newLow = first ? at[kind] : Math.min(oldLow, at[kind]);
            int newHigh = first ? at[kind] : Math.max(oldHigh, at[kind]);
            int more = first ? 0 : (newHigh - newLow) - (oldHigh - oldLow);
            if (more > walksLeft) {
                return false;
            }
            low[judge] = newLow;
            high[judge] = newHigh;
            load[judge]++;
            dealt[kind] = judge;
            if (dealFrom(kind + 1, walksLeft - more)) {
                return true;
            }
            low[judge] = oldLow;
            high[judge] = oldHigh;
            load[judge]--;
            return false;
        }
    }

    /** Places in one class at a time, and what exhibitors get for them. */
    private static final class Cards {
        /** 0: no place. */
        final int[] place = new int[ENTRIES];
        private final int[] before = new int[ENTRIES];
        private final int[] mark = new int[ENTRIES];
        private final int[] tie = new int[ENTRIES];
        final int[] pointsFor = {3, 2, 1};
        final int[] moneyFor = new int[PLACES];
        int fee;
        int jarFee;
        final int[] points = new int[EXHIBITORS];
        final int[] firsts = new int[EXHIBITORS];
        final int[] money = new int[EXHIBITORS];

        void clearPlaces() {
            Arrays.fill(place, 0);
        }

        void enter(int entry, int itsMarks, int itsTie) {
            place[entry] = 1;
            mark[entry] = itsMarks;
            tie[entry] = itsTie;
        }

        void givePlaces(int size) {
            for (int entry = 0; entry < size && entry < ENTRIES; entry++) {
                for (int other = 0; place[entry] > 0 && other < size && other < ENTRIES; other++) {
                    if (place[other] > 0 && isAhead(other, entry)) {
                        place[entry]++;
                    }
                }
            }
        }

        private boolean isAhead(int entry, int other) {
            return mark[entry] != mark[other] ? mark[entry] > mark[other] : tie[entry] > tie[other];
        }

        void keepPlaces() {
            System.arraycopy(place, 0, before, 0, ENTRIES);
        }

        int changedBut(int left) {
            int changed = 0;
            for (int entry = 0; entry < ENTRIES; entry++) {
                changed += entry != left && place[entry] != before[entry] ? 1 : 0;
            }
            return changed;
        }

        void clearSums() {
            Arrays.fill(points, 0);
            Arrays.fill(firsts, 0);
            Arrays.fill(money, 0);
        }

        void reward(int exhibitor, int itsPlace) {
            if (itsPlace < 1 || itsPlace > PLACES) {
                return;
            }
            points[exhibitor] += pointsFor[itsPlace - 1];
            money[exhibitor] += moneyFor[itsPlace - 1];
            firsts[exhibitor] += itsPlace == 1 ? 1 : 0;
        }
    }

    /** Whether an exhibitor can still win the cup, by trying the first places of the classes that are open. */
    private static final class CupSearch {
        static final int MOST_CLASSES = 3;
        static final int MOST_ENTRIES = 5;
        /** Those who won last year take places, but are nobody's rivals: they count as one. */
        static final int NOBODY = EXHIBITORS;

        final int[] points = new int[EXHIBITORS + 1];
        final int[] firsts = new int[EXHIBITORS + 1];
        int classes;
        private final int[] sizes = new int[MOST_CLASSES];
        private final int[] names = new int[MOST_CLASSES * MOST_ENTRIES];
        /** The most points that the target can have from this class on. */
        private final int[] hopes = new int[MOST_CLASSES + 1];
        private final int[] prizes = new int[PLACES];
        private int target;

        void listEntry(int index, int name) {
            if (classes < MOST_CLASSES && index < MOST_ENTRIES) {
                names[classes * MOST_ENTRIES + index] = name;
            }
        }

        void keepClass(int size) {
            if (classes < MOST_CLASSES) {
                sizes[classes] = size;
                classes++;
            }
        }

        boolean canLead(int exhibitor, int[] pointsFor) {
            target = exhibitor;
            System.arraycopy(pointsFor, 0, prizes, 0, PLACES);
            hopes[classes] = 0;
            for (int at = classes - 1; at >= 0; at--) {
                hopes[at] = hopes[at + 1] + mostIn(at);
            }
            return deal(0, 0, 0);
        }

        /** As if each of the target's entries had the best prize: more than can be is no harm here. */
        private int mostIn(int at) {
            int best = Math.max(prizes[0], Math.max(prizes[1], prizes[2]));
            int own = 0;
            for (int i = 0; i < sizes[at]; i++) {
                own += names[at * MOST_ENTRIES + i] == target ? 1 : 0;
            }
            return best * Math.min(own, PLACES);
        }

        private boolean deal(int at, int place, int used) {
            if (at >= classes) {
                return leads();
            }
            if (place >= PLACES || place >= sizes[at]) {
                return deal(at + 1, 0, 0);
            }
            if (place == 0 && isBeaten(points[target] + hopes[at])) {
                return false;
            }
            int tried = 0;
            for (int i = 0; i < sizes[at]; i++) {
                int who = names[at * MOST_ENTRIES + i];
                if ((used >> i & 1) != 0 || (tried >> who & 1) != 0) {
                    continue;
                }
                tried |= 1 << who;
                points[who] += prizes[place];
                firsts[who] += place == 0 ? 1 : 0;
                boolean found = deal(at, place + 1, used | 1 << i);
                points[who] -= prizes[place];
                firsts[who] -= place == 0 ? 1 : 0;
                if (found) {
                    return true;
                }
            }
            return false;
        }

        private boolean isBeaten(int hoped) {
            for (int who = 0; who < EXHIBITORS; who++) {
                if (who != target && points[who] > hoped) {
                    return true;
                }
            }
            return hoped <= 0;
        }

        private boolean leads() {
            if (isBeaten(points[target])) {
                return false;
            }
            for (int who = 0; who < EXHIBITORS; who++) {
                if (points[who] == points[target] && firsts[who] > firsts[target]) {
                    return false;
                }
            }
            return true;
        }
    }

    /** What marks hold; the order of laying tells which of them lie behind another. */
    private static final class Shelf {
        private final int[] laid = new int[SHELVES];
        private final int[] size = new int[SHELVES];
        private final long[] standing = new long[SHELVES];
        private final int[][] jarsLost = new int[SHELVES][ENTRIES];
        private final int[][] judgedBy = new int[SHELVES][CLASSES];
        private int layings;

        boolean holds(int mark) {
            return laid[mark] > 0;
        }

        void put(int mark, Entries entries, Judges judges) {
            layings++;
            laid[mark] = layings;
            size[mark] = entries.size;
            standing[mark] = entries.standing;
            System.arraycopy(entries.jarsLost, 0, jarsLost[mark], 0, ENTRIES);
            System.arraycopy(judges.of, 0, judgedBy[mark], 0, CLASSES);
        }

        void bringBack(int mark, Entries entries, Judges judges) {
            entries.size = size[mark];
            entries.standing = standing[mark];
            System.arraycopy(jarsLost[mark], 0, entries.jarsLost, 0, ENTRIES);
            System.arraycopy(judgedBy[mark], 0, judges.of, 0, CLASSES);
            for (int other = 0; other < SHELVES; other++) {
                if (laid[other] > laid[mark]) {
                    laid[other] = 0;
                }
            }
        }
    }
}
