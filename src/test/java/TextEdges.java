/** The edges of the language: tokens, lines, expressions, and the faults of each text. */
final class TextEdges {
    private static final int SCHEDULE = 0;
    private static final int BOOK = 1;
    private static final int PLAN = 2;

    private TextEdges() {
    }

    static void run(Edges e) {
        blanks(e);
        words(e);
        numbers(e);
        signs(e);
        want(e);
        bars(e);
        once(e);
        book(e);
        plan(e);
        parts(e);
        depth(e);
        order(e);
        tests(e);
        wrapping(e);
        longest(e);
        misplaced(e);
        theFirstFault(e);
        told(e);
        faultsLeave(e);
        noSuchClass(e);
    }

    // ---- helpers

    private static int read(VillageShow x, int text, String signs) {
        return text == SCHEDULE ? Checks.schedule(x, 0, signs) : text == BOOK ? Checks.book(x, signs)
            : Checks.plan(x, signs);
    }

    private static void fine(Edges e, int text, String signs) {
        VillageShow x = new VillageShow();
        e.due("<" + signs + ">", read(x, text, signs), 0);
        e.due("<" + signs + "> is taken", x.count(9), 0);
        e.due("classes told by <" + signs + ">", x.count(2), text == SCHEDULE ? 1 : 0);
    }

    /** The fault is at the | in the signs, which is not a part of them. */
    private static void bad(Edges e, int text, int kind, String signs) {
        int place = signs.indexOf('|');
        String without = signs.substring(0, place) + signs.substring(place + 1);
        VillageShow x = new VillageShow();
        e.due("<" + signs + ">", read(x, text, without), kind + 16 * place);
        e.due("<" + signs + "> is taken", x.count(9), 0);
        e.due("no class is told by <" + signs + ">", x.count(2), 0);
        e.due("no bar is told by <" + signs + ">", x.count(8), 0);
    }

    private static int valueOf(String expression) {
        VillageShow x = new VillageShow();
        x.exhibitor(0, 3, 33, true);
        x.judge(0, 0);
        x.piece(0, 0, 2, 30, 7);
        Checks.schedule(x, 0, "marks " + expression + ";");
        x.entry(0, 0, 1, 0);
        return x.marks(0, 0);
    }

    private static void worth(Edges e, String expression, int due) {
        e.due(expression, valueOf(expression), due);
    }

    // ---- tokens

    private static void blanks(Edges e) {
        e.at(5, "TOKENS, each as long as can be, blanks (10, 32) between where one likes:");
        fine(e, SCHEDULE, "");
        fine(e, SCHEDULE, " ");
        fine(e, SCHEDULE, "\n");
        fine(e, SCHEDULE, " \n \n\n  ");
        fine(e, SCHEDULE, "want 1 kind 1;");
        fine(e, SCHEDULE, "want1kind1;marks(1)<age*2+3-4;");
        fine(e, SCHEDULE, "\n\nwant\n1\n\nkind\n1\n;\n");
        fine(e, SCHEDULE, "  want   1   kind   1   ;   ");
        fine(e, SCHEDULE, "bar 1when 1and 2or 3;tie(1)and(2)or(not 3);");
        bad(e, SCHEDULE, 1, "|wa nt 1 kind 1;");
        bad(e, SCHEDULE, 1, "want 1 |ki nd 1;");
        bad(e, SCHEDULE, 1, "want 1 |kin\nd 1;");
        bad(e, SCHEDULE, 1, "marks 1 |2;");
        bad(e, SCHEDULE, 1, "marks 1\n|2;");
        bad(e, SCHEDULE, 1, "|marksage;");
        bad(e, SCHEDULE, 1, "|barmarks 1;");
        bad(e, SCHEDULE, 1, "marks |notage;");
        bad(e, SCHEDULE, 1, "marks 1 |andage;");
        fine(e, SCHEDULE, "marks not age;");
        fine(e, SCHEDULE, "marks not(age);");
        fine(e, SCHEDULE, "marks not not 1;");
        fine(e, SCHEDULE, "marks not 1and not 1;");
        worth(e, "12", 12);
        worth(e, "1 + 2", 3);
        worth(e, "1+ 2\n*\n3", 7);
    }

    private static void words(Edges e) {
        e.at(5, "WORDS (letters a .. z, 8 at most)");
        fine(e, SCHEDULE, "marks entries;");
        bad(e, SCHEDULE, 1, "marks |entriess;");
        bad(e, SCHEDULE, 1, "marks |entriesss;");
        bad(e, SCHEDULE, 1, "|m 1;");
        bad(e, SCHEDULE, 1, "|mark 1;");
        bad(e, SCHEDULE, 1, "|markss 1;");
        bad(e, SCHEDULE, 1, "|ma 1;");
        bad(e, SCHEDULE, 1, "|ties 1;");
        bad(e, SCHEDULE, 1, "|ti 1;");
        bad(e, SCHEDULE, 1, "|wan 1 kind 1;");
        bad(e, SCHEDULE, 1, "|wants 1 kind 1;");
        bad(e, SCHEDULE, 1, "want 1 |kin 1;");
        bad(e, SCHEDULE, 1, "bar 1 |whe 1;");
        bad(e, SCHEDULE, 1, "bar 1 |whens 1;");
        bad(e, SCHEDULE, 1, "marks |ag;");
        bad(e, SCHEDULE, 1, "marks |ages;");
        bad(e, SCHEDULE, 1, "marks |a;");
        bad(e, SCHEDULE, 1, "marks |z;");
        bad(e, SCHEDULE, 1, "marks |no 1;");
        bad(e, SCHEDULE, 1, "marks 1 |an 1;");
        bad(e, SCHEDULE, 1, "marks 1 |o 1;");
        bad(e, SCHEDULE, 1, "marks 1 |ors 1;");
        bad(e, SCHEDULE, 1, "|Marks 1;");
        bad(e, SCHEDULE, 1, "|MARKS 1;");
        bad(e, SCHEDULE, 1, "marks |Age;");
        bad(e, SCHEDULE, 1, "marks |agE;");
        bad(e, SCHEDULE, 1, "marks age|S;");
        bad(e, SCHEDULE, 1, "marks |a_ge;");
        bad(e, SCHEDULE, 1, "marks age|_;");
        e.at(5, "All else (a longer WORD or NUMBER, too, at its first sign) is none.");
        bad(e, SCHEDULE, 1, "|marksmarks 1;");
        bad(e, SCHEDULE, 1, "|abcdefgh;");
        bad(e, SCHEDULE, 1, "|abcdefghi;");
        bad(e, SCHEDULE, 1, "marks |entriesentries;");
        bad(e, SCHEDULE, 1, "marks 1+|piecespieces;");
        bad(e, SCHEDULE, 1, "marks |12345;");
        bad(e, SCHEDULE, 1, "marks |00001;");
        bad(e, SCHEDULE, 1, "marks |123456789012345678901234567890;");
        bad(e, SCHEDULE, 1, "marks |4294967297;");
        bad(e, SCHEDULE, 1, "want |00001 kind 1;");
        bad(e, SCHEDULE, 1, "want 1 kind |00001;");
        bad(e, SCHEDULE, 1, "bar |00001 when 1;");
        bad(e, SCHEDULE, 1, "marks |" + "z".repeat(900) + ";");
        bad(e, SCHEDULE, 1, "marks |" + "7".repeat(900) + ";");
        bad(e, BOOK, 1, "bar |10000 when 1;");
        bad(e, PLAN, 1, "drop when |10000;");
    }

    private static void numbers(Edges e) {
        e.at(5, "NUMBERS (1 to 4 digits; a letter may stand right behind)");
        worth(e, "0", 0);
        worth(e, "9", 9);
        worth(e, "10", 10);
        worth(e, "099", 99);
        worth(e, "999", 999);
        worth(e, "1000", 1000);
        worth(e, "0001", 1);
        worth(e, "0000", 0);
        worth(e, "9999", 9999);
        worth(e, "1and 2", 1);
        worth(e, "9999or 0", 1);
        fine(e, SCHEDULE, "want 1kind 1;");
        fine(e, SCHEDULE, "want 0008kind 0009;");
        fine(e, SCHEDULE, "bar 0099when 1;");
        bad(e, SCHEDULE, 1, "marks 1|age;");
        bad(e, SCHEDULE, 1, "marks 1|x;");
        bad(e, SCHEDULE, 1, "marks 1|e2;");
        bad(e, SCHEDULE, 1, "marks 1|.5;");
        bad(e, SCHEDULE, 1, "marks 1|,5;");
    }

    private static void signs(Edges e) {
        e.at(5, "the signs ( ) < = + - * ;");
        fine(e, SCHEDULE, "marks(1)<2;tie(1)=2;bar 1 when 1+2-3*4;");
        String taken = "(0123456789abcdefghijklmnopqrstuvwxyz ";
        for (char sign = 32; sign < 127; sign++) {
            if (taken.indexOf(sign) < 0) {
                VillageShow x = new VillageShow();
                e.due("marks " + sign, Checks.schedule(x, 0, "marks " + sign + "1;"), 1 + 16 * 6);
            }
            if ((taken + "\n)<=+-*;").indexOf(sign) < 0) {
                VillageShow x = new VillageShow();
                e.due("marks 1 " + sign, Checks.schedule(x, 0, "marks 1 " + sign + "1;"), 1 + 16 * 8);
                e.due(sign + " first", Checks.schedule(x, 0, sign + "marks 1;"), 1);
                e.due(sign + " last", Checks.schedule(x, 0, "marks 1;" + sign), 1 + 16 * 8);
            }
        }
        bad(e, SCHEDULE, 1, "marks 1=|=1;");
        bad(e, SCHEDULE, 1, "marks 1<|=1;");
        bad(e, SCHEDULE, 1, "marks 1+|+1;");
        bad(e, SCHEDULE, 1, "marks 1-|-1;");
        bad(e, SCHEDULE, 1, "marks 1*|*1;");
    }

    // ---- lines

    private static void want(Edges e) {
        e.at(5, "want 1 to 8, kind 0 to 9, bar N 0 to 99.");
        for (int n = 1; n <= 8; n++) {
            fine(e, SCHEDULE, "want " + n + " kind " + (n + 1) + ";");
        }
        fine(e, SCHEDULE, "want 1 kind 0;");
        e.at(5, "4 a NUMBER that is not as told");
        for (String n : new String[] {"0", "00", "0000", "9", "09", "10", "99", "9999"}) {
            bad(e, SCHEDULE, 4, "want |" + n + " kind 1;");
        }
        for (String n : new String[] {"10", "0010", "11", "99", "9999"}) {
            bad(e, SCHEDULE, 4, "want 1 kind |" + n + ";");
        }
        for (int text : new int[] {SCHEDULE, BOOK}) {
            fine(e, text, "bar 0 when 1;");
            fine(e, text, "bar 99 when 1;");
            fine(e, text, "bar 0099 when 1;");
            for (String n : new String[] {"100", "0100", "101", "1000", "9999"}) {
                bad(e, text, 4, "bar |" + n + " when 1;");
            }
        }
        e.at(5, "SCHEDULE of a CLASS: any number of want N kind N ; bar N when E ; marks E ; tie E ;");
        bad(e, SCHEDULE, 1, "want|");
        bad(e, SCHEDULE, 1, "want |;");
        bad(e, SCHEDULE, 1, "want 1|");
        bad(e, SCHEDULE, 1, "want 1|;");
        bad(e, SCHEDULE, 1, "want 1 kind|");
        bad(e, SCHEDULE, 1, "want 1 kind|;");
        bad(e, SCHEDULE, 1, "want 1 kind 1|");
        bad(e, SCHEDULE, 1, "want 1 kind 1 |marks 1;");
        bad(e, SCHEDULE, 1, "want 1 kind 1 |+1;");
        bad(e, SCHEDULE, 1, "want |kind 1;");
        bad(e, SCHEDULE, 1, "want 1 |1;");
        bad(e, SCHEDULE, 1, "want |(1) kind 1;");
        bad(e, SCHEDULE, 1, "want |-1 kind 1;");
        bad(e, SCHEDULE, 1, "want 1 |when 1;");
        bad(e, SCHEDULE, 1, "marks|");
        bad(e, SCHEDULE, 1, "marks|;");
        bad(e, SCHEDULE, 1, "marks 1|");
        bad(e, SCHEDULE, 1, "marks |when 1;");
        bad(e, SCHEDULE, 1, "tie|");
        bad(e, SCHEDULE, 1, "tie|;");
        bad(e, SCHEDULE, 1, "tie |when 1;");
        bad(e, SCHEDULE, 1, "tie 1 |kind 1;");
        bad(e, SCHEDULE, 1, "bar|");
        bad(e, SCHEDULE, 1, "bar |when 1;");
        bad(e, SCHEDULE, 1, "bar 1|");
        bad(e, SCHEDULE, 1, "bar 1|;");
        bad(e, SCHEDULE, 1, "bar 1 |1;");
        bad(e, SCHEDULE, 1, "bar 1 |kind 1;");
        bad(e, SCHEDULE, 1, "bar 1 when|");
        bad(e, SCHEDULE, 1, "bar 1 when|;");
        bad(e, SCHEDULE, 1, "bar 1 when 1|");
        bad(e, SCHEDULE, 1, "bar 1 when 1 |bar 1 when 1;");
    }

    private static void bars(Edges e) {
        e.at(5, "bar 6 at most, the others once each");
        String bar = "bar 1 when 1;";
        for (int many = 0; many <= 6; many++) {
            fine(e, SCHEDULE, bar.repeat(many));
        }
        fine(e, SCHEDULE, bar.repeat(3) + "tie 1;want 1 kind 1;marks 1;" + bar.repeat(3));
        e.at(5, "5 one too many: the word bar of a seventh; not, or a PART, within 5 others.");
        bad(e, SCHEDULE, 5, bar.repeat(6) + "|" + bar);
        bad(e, SCHEDULE, 5, bar.repeat(6) + "|bar");
        bad(e, SCHEDULE, 5, bar.repeat(6) + "|bar 100 when x;");
        bad(e, SCHEDULE, 5, bar.repeat(6) + "marks 1;|bar 1 when 1;");
        bad(e, SCHEDULE, 5, bar.repeat(6) + "|" + bar.repeat(7));
        bad(e, SCHEDULE, 1, bar.repeat(6) + "|bars 1 when 1;");
        bad(e, SCHEDULE, 1, bar.repeat(6) + "|ba");
        e.at(6, "5 one too many: the word bar of a seventh;");
        for (int many = 0; many <= 6; many++) {
            fine(e, BOOK, bar.repeat(many));
        }
        bad(e, BOOK, 5, bar.repeat(6) + "|" + bar);
        bad(e, BOOK, 5, bar.repeat(6) + " |bar");
        bad(e, BOOK, 1, bar.repeat(6) + "|marks 1;");
        bad(e, PLAN, 1, "|" + bar.repeat(7));
    }

    private static void once(Edges e) {
        e.at(5, "3 the word want, marks, tie, drop, split, join a second time");
        bad(e, SCHEDULE, 3, "want 1 kind 1;|want 1 kind 1;");
        bad(e, SCHEDULE, 3, "want 8 kind 0;|want");
        bad(e, SCHEDULE, 3, "want 1 kind 0;tie 1;|want 99 kind 1;");
        bad(e, SCHEDULE, 3, "marks 1;|marks 1;");
        bad(e, SCHEDULE, 3, "marks 0;bar 1 when 1;|marks");
        bad(e, SCHEDULE, 3, "tie 0; |tie 0;");
        bad(e, SCHEDULE, 3, "tie 1;marks 1;want 1 kind 1;|tie x");
        bad(e, SCHEDULE, 1, "marks 1;|marksx");
        bad(e, SCHEDULE, 1, "marks |marks 1;");
        bad(e, SCHEDULE, 1, "marks 1; tie |marks;");
        bad(e, SCHEDULE, 1, "want 1 |want;");
        bad(e, SCHEDULE, 1, "want 1 kind |want;");
        e.at(7, "3 the word want, marks, tie, drop, split, join a second time");
        for (String word : new String[] {"drop", "split", "join"}) {
            bad(e, PLAN, 3, word + " when 1;|" + word + " when 1;");
            bad(e, PLAN, 3, word + " when 0;|" + word);
            bad(e, PLAN, 1, word + " when |" + word + ";");
            bad(e, PLAN, 1, word + " |" + word + ";");
        }
        bad(e, PLAN, 3, "drop when 1;split when 1;join when 1;|drop when 1;");
        bad(e, PLAN, 3, "join when 1;split when 1;drop when 1;|split");
    }

    private static void book(Edges e) {
        e.at(6, "BOOK: any number of bar N when E ; 6 at most.");
        fine(e, BOOK, "");
        fine(e, BOOK, "bar 5 when pieces+kinds+odd+size+spread+grade+worst+age+house+won+entries;");
        for (String line : new String[] {"want 1 kind 1;", "marks 1;", "tie 1;", "drop when 1;", "split when 1;",
            "join when 1;", "when 1;", "1;", ";", "kind 1;", "not 1;", "(1);"}) {
            bad(e, BOOK, 1, "|" + line);
            bad(e, BOOK, 1, "bar 1 when 1;|" + line);
        }
        for (String fact : new String[] {"now", "last", "most", "least", "mean", "years", "kind", "wanted"}) {
            bad(e, BOOK, 1, "bar 1 when |" + fact + ";");
        }
        VillageShow x = new VillageShow();
        for (int many = 0; many <= 6; many++) {
            e.due(many + " bars", Checks.book(x, "bar 1 when 0;".repeat(many)), 0);
            e.due("that is " + many, x.count(8), many);
        }
        e.at(6, "The TAPE is read as the BOOK: 0, or its FAULT (likewise).");
        e.due("a seventh", Checks.book(x, "bar 1 when 0;".repeat(7)), 5 + 16 * 78);
        e.due("six are left", x.count(8), 6);
        e.due("a fault", Checks.book(x, "x"), 1);
        e.due("six are left", x.count(8), 6);
        e.due("a fault at the end", Checks.book(x, "bar 1 when 0"), 1 + 16 * 12);
        e.due("six are left", x.count(8), 6);
        VillageShow y = Sample.show();
        y.book();
        e.due("the book bars", y.verdict(2), 9);
        e.due("a fault behind a whole bar", Checks.book(y, "bar 11 when 1;bar"), 1 + 16 * 17);
        e.due("the former one bars", y.verdict(2), 9);
        e.due("and nobody else", y.verdict(0), Edges.NONE);
    }

    private static void plan(Edges e) {
        e.at(7, "PLAN: drop when E ; split when E ; join when E ; once each at most, in any order.");
        fine(e, PLAN, "");
        fine(e, PLAN, "drop when now+last+most+least+mean+years+kind+wanted;");
        String[] lines = {"drop when 1;", "split when 2;", "join when 3;"};
        for (int a = 0; a < 3; a++) {
            fine(e, PLAN, lines[a]);
            for (int b = 0; b < 3; b++) {
                if (a != b) {
                    fine(e, PLAN, lines[a] + lines[b]);
                    fine(e, PLAN, lines[a] + lines[b] + lines[3 - a - b]);
                }
            }
        }
        for (String line : new String[] {"want 1 kind 1;", "marks 1;", "tie 1;", "bar 1 when 1;", "when 1;", "1;", ";",
            "now;", "kind 1;"}) {
            bad(e, PLAN, 1, "|" + line);
            bad(e, PLAN, 1, "split when 1;|" + line);
        }
        for (String word : new String[] {"drop", "split", "join"}) {
            bad(e, PLAN, 1, word + "|");
            bad(e, PLAN, 1, word + " |1;");
            bad(e, PLAN, 1, word + "|;");
            bad(e, PLAN, 1, word + " when|");
            bad(e, PLAN, 1, word + " when|;");
            bad(e, PLAN, 1, word + " when 1|");
            bad(e, PLAN, 1, word + " |1 when 1;");
        }
        for (String fact : new String[] {"pieces", "kinds", "odd", "size", "spread", "grade", "worst", "age", "house",
            "won", "entries"}) {
            bad(e, PLAN, 1, "drop when |" + fact + ";");
        }
        e.at(7, "The TAPE is read as the PLAN: 0, or its FAULT (likewise).");
        VillageShow x = new VillageShow();
        Checks.schedule(x, 0, "");
        e.due("a plan", Checks.plan(x, "split when 1;"), 0);
        for (String text : new String[] {"drop when 1", "drop when 1;x", "drop when 1;drop", "split when 0;join", "1"}) {
            e.yes("a fault in " + text, Checks.plan(x, text) > 0);
            e.due("the plan is as it was after " + text, x.planned(0, 0), 2);
        }
    }

    // ---- expressions

    private static void parts(Edges e) {
        e.at(5, "PART: a NUMBER, a fact, not PART, ( E );");
        for (String fact : new String[] {"pieces", "kinds", "odd", "size", "spread", "grade", "worst", "age", "house",
            "won", "entries"}) {
            fine(e, SCHEDULE, "marks " + fact + ";");
            fine(e, SCHEDULE, "marks not " + fact + ";");
            fine(e, SCHEDULE, "marks(" + fact + ");");
            bad(e, SCHEDULE, 1, "marks " + fact + " |" + fact + ";");
        }
        for (String fact : new String[] {"now", "last", "most", "least", "mean", "years", "kind", "wanted"}) {
            fine(e, PLAN, "drop when " + fact + ";");
            bad(e, SCHEDULE, 1, "marks |" + fact + ";");
            bad(e, SCHEDULE, 1, "bar 1 when |" + fact + ";");
        }
        for (String word : new String[] {"want", "bar", "marks", "tie", "when", "and", "or", "drop", "split", "join"}) {
            bad(e, SCHEDULE, 1, "marks |" + word + ";");
            bad(e, SCHEDULE, 1, "marks 1+|" + word + ";");
            bad(e, SCHEDULE, 1, "marks(|" + word + ");");
            bad(e, SCHEDULE, 1, "marks not |" + word + ";");
        }
        for (String sign : new String[] {")", "<", "=", "+", "-", "*", ";"}) {
            bad(e, SCHEDULE, 1, "marks |" + sign + "1;");
            bad(e, SCHEDULE, 1, "marks (|" + sign + "1);");
            bad(e, SCHEDULE, 1, "marks not |" + sign + "1;");
            bad(e, SCHEDULE, 1, "marks 1*|" + sign + "1;");
        }
        bad(e, SCHEDULE, 1, "marks (|");
        bad(e, SCHEDULE, 1, "marks (1|");
        bad(e, SCHEDULE, 1, "marks (1|;");
        bad(e, SCHEDULE, 1, "marks 1|);");
        bad(e, SCHEDULE, 1, "marks (1)|);");
        bad(e, SCHEDULE, 1, "marks ((1)|;");
        bad(e, SCHEDULE, 1, "marks not|");
        bad(e, SCHEDULE, 1, "marks (1)|(2);");
        bad(e, SCHEDULE, 1, "marks 1 |(2);");
        bad(e, SCHEDULE, 1, "marks age |not 1;");
    }

    private static void depth(Edges e) {
        e.at(5, "no PART lies within 5 of not and ( ).");
        String[] openings = {"(((((", "not not not not not ", "not(not(not ", "(not(not(", "not not(((",
            "((not not("};
        String[] closings = {")))))", "", "))", ")))", ")))", ")))"};
        for (int i = 0; i < openings.length; i++) {
            String open = openings[i];
            String close = closings[i];
            for (String part : new String[] {"1", "age", "not 1", "(1)"}) {
                bad(e, SCHEDULE, 5, "marks " + open + "|" + part + close + ";");
                bad(e, SCHEDULE, 5, "tie 1+" + open + "|" + part + close + ";");
                bad(e, BOOK, 5, "bar 1 when " + open + "|" + part + close + ";");
            }
            for (String part : new String[] {"1", "now", "not 1", "(1)"}) {
                bad(e, PLAN, 5, "join when " + open + "|" + part + close + ";");
            }
            for (String none : new String[] {")", "x", "and", ";", "-", "now", "marks", "12345", "#"}) {
                bad(e, SCHEDULE, 1, "marks " + open + "|" + none + close + ";");
            }
            bad(e, SCHEDULE, 1, "marks " + open + "|");
        }
        for (String four : new String[] {"((((1))))", "not not not not 1", "not(not(1))", "(not(not 1))",
            "((((age))))+((((age))))", "not not not not 1 and not not not not 1", "((((1)+1)+1)+1)+1",
            "1+(1+(1+(1+(1))))", "(1)+(1)+(1)+(1)+(1)+(1)", "not 1+not 1+not 1+not 1+not 1+not 1"}) {
            fine(e, SCHEDULE, "marks " + four + ";");
            fine(e, SCHEDULE, "bar 1 when " + four + ";tie " + four + ";");
        }
        bad(e, SCHEDULE, 5, "marks ((((1))))+(((((|1)))));");
        bad(e, SCHEDULE, 5, "marks ((((1+(|1)))));");
        bad(e, SCHEDULE, 5, "marks ((((1+not |1))));");
        bad(e, SCHEDULE, 5, "marks ((((not |1))));");
        bad(e, SCHEDULE, 5, "marks not not not not (|1);");
        worth(e, "((((7))))", 7);
        worth(e, "not not not not 7", 1);
        worth(e, "not not not 7", 0);
        worth(e, "1 or 0<1+2*(1 or 0<1+2*(1 or 0<1+2*(1 or 0<1+2*(1 or 0<1+2*3))))", 1);
        worth(e, "0 or 3=1+2*(0 or 3=1+2*(0 or 3=1+2*(0 or 3=1+2*(0 or 7=1+2*3))))", 1);
        worth(e, "0 or 3=1+2*(0 or 3=1+2*(0 or 3=1+2*(0 or 3=1+2*(0 or 8=1+2*3))))", 0);
        worth(e, "9-2*(8-2*(7-2*(6-2*5)))", 9 - 2 * (8 - 2 * (7 - 2 * (6 - 2 * 5))));
        worth(e, "9-2*(8-2*(7-2*(6-2*(5-1*4))))", 9 - 2 * (8 - 2 * (7 - 2 * (6 - 2 * (5 - 4)))));
    }

    private static void order(Edges e) {
        e.at(5, "E: TEST { and TEST or or TEST }, from the left;");
        worth(e, "1 or 1 and 0", 0);
        worth(e, "0 and 0 or 1", 1);
        worth(e, "0 or 1 and 1", 1);
        worth(e, "1 and 1 and 0 or 0", 0);
        worth(e, "1 or (1 and 0)", 1);
        worth(e, "5", 5);
        bad(e, SCHEDULE, 1, "marks 1 and|");
        bad(e, SCHEDULE, 1, "marks 1 or|;");
        bad(e, SCHEDULE, 1, "marks 1 and |or 1;");
        bad(e, SCHEDULE, 1, "marks 1 and |and 1;");
        bad(e, SCHEDULE, 1, "marks |or 1;");
        e.at(5, "TEST: SUM, or SUM < SUM, or SUM = SUM;");
        worth(e, "1<2 and 2<3", 1);
        worth(e, "1+1<1*3", 1);
        worth(e, "1+1=1*2", 1);
        worth(e, "1<(2<3)", 0);
        worth(e, "(1<2)<3", 1);
        bad(e, SCHEDULE, 1, "marks 1<2|<3;");
        bad(e, SCHEDULE, 1, "marks 1=2|=3;");
        bad(e, SCHEDULE, 1, "marks 1<2|=3;");
        bad(e, SCHEDULE, 1, "marks 1=2|<3;");
        bad(e, SCHEDULE, 1, "marks 1<|;");
        bad(e, SCHEDULE, 1, "marks 1=|;");
        bad(e, SCHEDULE, 1, "marks 1<|and 1;");
        e.at(5, "SUM: PRODUCT { + or - PRODUCT }; PRODUCT: PART { * PART };");
        worth(e, "10-3-2", 5);
        worth(e, "10-3+2", 9);
        worth(e, "10-(3+2)", 5);
        worth(e, "2+3*4", 14);
        worth(e, "2*3+4", 10);
        worth(e, "2*3*4*5", 120);
        worth(e, "20-2*3-4*2", 6);
        worth(e, "not 0*5", 5);
        worth(e, "2*not 7+3", 3);
        worth(e, "not 0+5", 6);
        worth(e, "not(0+5)", 0);
        bad(e, SCHEDULE, 1, "marks 1+|;");
        bad(e, SCHEDULE, 1, "marks 1-|;");
        bad(e, SCHEDULE, 1, "marks 1*|;");
        bad(e, SCHEDULE, 1, "marks 1*|-1;");
        bad(e, SCHEDULE, 1, "marks |-1;");
    }

    private static void tests(Edges e) {
        e.at(5, "Of not, and, or, < and = comes 1 or 0; what is not 0 is so; ints wrap.");
        for (String so : new String[] {"1", "2", "9999", "(0-1)", "(0-9999)", "(" + Edges.LEAST + ")", "(" + Edges.GREATEST + ")"}) {
            worth(e, "not " + so, 0);
            worth(e, so + " and " + so, 1);
            worth(e, so + " and 0", 0);
            worth(e, "0 and " + so, 0);
            worth(e, "0 or " + so, 1);
            worth(e, so + " or 0", 1);
            worth(e, so + "=" + so, 1);
            worth(e, so + "<" + so, 0);
        }
        worth(e, "not 0", 1);
        worth(e, "0 and 0", 0);
        worth(e, "0 or 0", 0);
        worth(e, "1<2", 1);
        worth(e, "2<2", 0);
        worth(e, "3<2", 0);
        worth(e, "2=2", 1);
        worth(e, "1=2", 0);
        worth(e, "0-1<0", 1);
        worth(e, "0<0-1", 0);
        worth(e, "2 and 4", 1);
        worth(e, "2 or 4", 1);
    }

    private static void wrapping(Edges e) {
        worth(e, Edges.GREATEST, Edges.HIGH);
        worth(e, Edges.LEAST, Edges.LOW);
        worth(e, Edges.GREATEST + "+1", Edges.LOW);
        worth(e, Edges.LEAST + "-1", Edges.HIGH);
        worth(e, Edges.GREATEST + "+1<0", 1);
        worth(e, Edges.LEAST + "-1<0", 0);
        worth(e, Edges.LEAST + "<" + Edges.GREATEST, 1);
        worth(e, Edges.GREATEST + "<" + Edges.LEAST, 0);
        worth(e, "0-(" + Edges.LEAST + ")", Edges.LOW);
        worth(e, "(" + Edges.LEAST + ")*(0-1)", Edges.LOW);
        worth(e, "256*256*256*256", 0);
        worth(e, "not(256*256*256*256)", 1);
        worth(e, "256*256*256*128", Edges.LOW);
        worth(e, "9999*9999*9999*9999", 9999 * 9999 * 9999 * 9999);
        VillageShow x = new VillageShow();
        x.exhibitor(0, 0, 1, false);
        x.piece(0, 0, 0, 1, 0);
        Checks.schedule(x, 0, "bar 5 when 256*256*256*256;bar 6 when " + Edges.LEAST + ";");
        x.entry(0, 0, 1, 0);
        e.due("the first bar wraps to 0, the second one is the least int", x.verdict(0), 6);
    }

    private static void longest(Edges e) {
        e.at(5, "The TAPE has at most 1,000 signs, 10 and 32 .. 126;");
        worth(e, "1+".repeat(496) + "1", 497);
        worth(e, "9-".repeat(496) + "9", 9 - 496 * 9);
        worth(e, "1*".repeat(496) + "7", 7);
        worth(e, "1or ".repeat(248) + "0", 1);
        worth(e, "1and ".repeat(198) + "1", 1);
        worth(e, "1and ".repeat(198) + "0", 0);
        worth(e, "(1)+".repeat(248) + "1", 249);
        fine(e, SCHEDULE, "bar 1 when 1;".repeat(6) + "marks 1" + "+1".repeat(454) + ";tie 1;");
        bad(e, SCHEDULE, 1, "marks 1" + "+1".repeat(496) + "+|");
        bad(e, SCHEDULE, 1, "marks 1" + "+1".repeat(496) + "|#");
    }

    // ---- faults

    private static void misplaced(Edges e) {
        e.at(5, "FAULTS, kind + 16 * the place (from 0) of a token, the end being one at the text's length:");
        bad(e, SCHEDULE, 1, "|x");
        bad(e, SCHEDULE, 1, " |x");
        bad(e, SCHEDULE, 1, "\n\n |x");
        bad(e, SCHEDULE, 1, "marks 1|");
        bad(e, SCHEDULE, 1, "marks 1  \n|");
        bad(e, SCHEDULE, 1, " ".repeat(999) + "|x");
        bad(e, SCHEDULE, 1, "marks 1" + " ".repeat(993) + "|");
        bad(e, SCHEDULE, 1, "marks 1" + " ".repeat(992) + "|x");
        bad(e, BOOK, 1, "bar" + " ".repeat(997) + "|");
        bad(e, PLAN, 1, "drop" + " ".repeat(996) + "|");
        bad(e, SCHEDULE, 5, "bar 1 when 1;".repeat(6) + " ".repeat(919) + "|bar");
        bad(e, SCHEDULE, 3, "tie 1;" + " ".repeat(991) + "|tie");
        bad(e, SCHEDULE, 4, "want" + " ".repeat(995) + "|9");
        e.at(5, "1 it is none, or can't stand there");
        bad(e, SCHEDULE, 1, "|#");
        bad(e, SCHEDULE, 1, "|;");
        bad(e, SCHEDULE, 1, "marks 1;|;");
        bad(e, SCHEDULE, 1, "|when 1;");
        bad(e, SCHEDULE, 1, "|5;");
        bad(e, SCHEDULE, 1, "|age;");
        bad(e, SCHEDULE, 1, "|drop when 1;");
        bad(e, SCHEDULE, 1, "|split when 1;");
        bad(e, SCHEDULE, 1, "|join when 1;");
    }

    private static void theFirstFault(Edges e) {
        e.at(5, "of the first token from the left that is wrong the least:");
        bad(e, SCHEDULE, 4, "want |9 kind 99;want 1 kind 1;x");
        bad(e, SCHEDULE, 1, "want 1 |x 99;want 1 kind 1;");
        bad(e, SCHEDULE, 3, "tie 1;|tie x");
        bad(e, SCHEDULE, 1, "tie 1 |tie 1;tie 1;");
        bad(e, SCHEDULE, 1, "marks (((((|#)))));");
        bad(e, SCHEDULE, 1, "marks (((((|and)))));");
        bad(e, SCHEDULE, 1, "marks not not not not not |99999;");
        bad(e, SCHEDULE, 5, "marks (((((|9999 x;");
        bad(e, SCHEDULE, 5, "marks (((((|((((;");
        bad(e, BOOK, 4, "bar |100 when (((((1)))));x");
        bad(e, PLAN, 5, "drop when not not not not not |1;drop x");
    }

    private static void told(Edges e) {
        e.at(5, "Without a FAULT it is the SCHEDULE (the CLASS is told then), the BOOK, the PLAN from then on.");
        VillageShow x = new VillageShow();
        for (int kind = 0; kind <= 9; kind++) {
            e.due("not told", x.kin(0, kind), Edges.NONE);
            e.due("a fault", Checks.schedule(x, kind, "x"), 1);
            e.due("not told", x.count(2), kind);
            e.due("class " + kind, Checks.schedule(x, kind, ""), 0);
            e.due("told", x.count(2), kind + 1);
        }
        e.due("all ten again", Checks.schedule(x, 9, "marks 1;"), 0);
        e.due("are ten", x.count(2), 10);
        e.at(5, "The TAPE is read as a SCHEDULE: 0; its FAULT (it stays as it was); -1: no such CLASS (the TAPE is empty).");
        VillageShow y = Sample.show();
        y.book();
        int[] before = {y.verdict(0), y.marks(0, 0), y.place(0, 0), y.clash(0, 0)};
        for (String text : new String[] {"x", "want 9 kind 1;", "marks 5", "marks 5;marks 6;", "marks 1;bar 1 when 1;x",
            "want 1 kind 9;tie", "bar 1 when 1;".repeat(7), "tie (((((1)))));"}) {
            e.yes("a fault: " + text, Checks.schedule(y, 0, text) > 0);
            e.due("out as before " + text, y.verdict(0), before[0]);
            e.due("marks as before " + text, y.marks(0, 0), before[1]);
            e.due("place as before " + text, y.place(0, 0), before[2]);
            e.due("clash as before " + text, y.clash(0, 0), before[3]);
            e.due("three classes after " + text, y.count(2), 3);
        }
        e.due("one in place of it", Checks.schedule(y, 0, "marks 5;"), 0);
        e.due("marks are other ones", y.marks(0, 1), 5);
        e.due("nothing is wanted", y.clash(0, 0), Edges.NONE);
        e.due("its entries stay", y.fact(0, 13), 1);
        e.due("it is still judged", y.place(0, Edges.NONE), 1);
        e.due("three classes", y.count(2), 3);
    }

    private static int more(VillageShow x, String text, int reader) {
        Checks.feed(x, text);
        return reader == BOOK ? x.book() : reader == PLAN ? x.plan() : 0;
    }

    private static void faultsLeave(Edges e) {
        int there = Sample.TAPE.length();
        for (int kind = 0; kind <= 9; kind++) {
            int its = kind;
            e.at(5, "its FAULT (it stays as it was)");
            e.empties("a schedule of class " + kind + " with something behind it", 1 + 16 * there, x -> {
                more(x, "x", SCHEDULE);
                return x.schedule(its);
            });
            e.empties("a seventh bar for class " + kind, 5 + 16 * (there + 65), x -> {
                more(x, "bar 1 when 1;".repeat(6), SCHEDULE);
                return x.schedule(its);
            });
        }
        for (int kind : Edges.outside(0, 9)) {
            e.at(5, "-1: no such CLASS (the TAPE is empty)");
            e.empties("class " + kind, -1, x -> x.schedule(kind));
        }
        e.at(6, "The TAPE is read as the BOOK: 0, or its FAULT (likewise).");
        e.empties("something behind it", 1 + 16 * there, x -> more(x, "x", BOOK));
        e.empties("a line of a schedule behind it", 1 + 16 * there, x -> more(x, "marks 1;", BOOK));
        e.empties("a number not as told", 4 + 16 * (there + 4), x -> more(x, "bar 100 when 1;", BOOK));
        e.empties("no end", 1 + 16 * (there + 12), x -> more(x, "bar 1 when 1", BOOK));
        e.empties("a seventh bar", 5 + 16 * (there + 65), x -> more(x, "bar 1 when 1;".repeat(6), BOOK));
        e.at(7, "The TAPE is read as the PLAN: 0, or its FAULT (likewise).");
        e.empties("a bar", 1, VillageShow::plan);
        e.empties("a bar and a plan", 1, x -> more(x, "drop when 1;", PLAN));
    }

    private static void noSuchClass(Edges e) {
        e.at(5, "-1: no such CLASS (the TAPE is empty)");
        for (int kind : Edges.outside(0, 9)) {
            for (String text : new String[] {"", "marks 1;", "x", " ".repeat(1000)}) {
                VillageShow x = new VillageShow();
                Checks.feed(x, text);
                e.due("class " + kind, x.schedule(kind), -1);
                e.due("empty", x.count(9), 0);
                e.due("none is told", x.count(2), 0);
            }
        }
        e.due("0 is one", new VillageShow().schedule(0), 0);
        e.due("9 is one", new VillageShow().schedule(9), 0);
    }
}
