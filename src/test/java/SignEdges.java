/** The edges of words and numbers: each letter of each word, the signs right behind, texts that are cut, depth. */
final class SignEdges {
    private static final int SCHEDULE = 0;
    private static final int BOOK = 1;
    private static final int PLAN = 2;
    private static final String[] SCHEDULES = {"want 2 kind 1;", "bar 1 when age and house or not won;", "tie 1;",
        "marks pieces+kinds*odd-size<spread;", "tie grade+worst=entries;"};
    private static final String[] PLANS = {"drop when now+last*most-least;", "split when mean<years;",
        "join when not kind=wanted;"};

    private SignEdges() {
    }

    static void run(Edges e) {
        letters(e);
        signsBehind(e);
        cut(e);
        cutAtTheEnd(e);
        depthBehindSigns(e);
    }

    private static int read(VillageShow x, int text, String signs) {
        return text == SCHEDULE ? Checks.schedule(x, 0, signs) : text == BOOK ? Checks.book(x, signs)
            : Checks.plan(x, signs);
    }

    private static void bad(Edges e, int text, int kind, int place, String signs) {
        e.due("<" + signs + ">", read(new VillageShow(), text, signs), kind + 16 * place);
    }

    private static void fine(Edges e, int text, String signs) {
        e.due("<" + signs + ">", read(new VillageShow(), text, signs), 0);
    }

    private static boolean letter(char sign) {
        return sign >= 'a' && sign <= 'z';
    }

    // ---- words

    private static void letters(Edges e) {
        e.at(5, "1 it is none, or can't stand there");
        for (String signs : SCHEDULES) {
            lettersOf(e, SCHEDULE, signs);
        }
        lettersOf(e, BOOK, SCHEDULES[1]);
        for (String signs : PLANS) {
            lettersOf(e, PLAN, signs);
        }
    }

    /** Each word with another letter, one less (but least less its e is last), one more, a letter twice, a digit. */
    private static void lettersOf(Edges e, int text, String signs) {
        fine(e, text, signs);
        int end = 0;
        for (int start = 0; start < signs.length(); start = end + 1) {
            for (end = start; letter(signs.charAt(end)); end++) {
                continue;
            }
            for (int i = start; i < end; i++) {
                char its = signs.charAt(i);
                String before = signs.substring(0, i);
                String behind = signs.substring(i + 1);
                for (char other : new char[] {(char) (its + 1), (char) (its - 1), 'q', (char) (its - 32)}) {
                    bad(e, text, 1, start, before + other + behind);
                }
                bad(e, text, 1, start, before + its + its + behind);
                if (!signs.startsWith("least", start) || its != 'e') {
                    bad(e, text, 1, start, before + behind);
                }
                if (i > start) {
                    bad(e, text, 1, start, before + '1' + behind);
                }
            }
            if (end > start) {
                bad(e, text, 1, start, signs.substring(0, end) + 'x' + signs.substring(end));
                bad(e, text, 1, start, signs.substring(0, start) + 'x' + signs.substring(start));
            }
        }
    }

    private static void signsBehind(Edges e) {
        e.at(5, "WORDS (letters a .. z, 8 at most), NUMBERS (1 to 4 digits; a letter may stand right behind), the signs ( )"
            + " < = + - * ; All else (a longer WORD or NUMBER, too, at its first sign) is none.");
        for (char sign = 33; sign < 127; sign++) {
            boolean known = "()<=+-*;".indexOf(sign) >= 0;
            if (!letter(sign) && !(sign >= '0' && sign <= '9')) {
                bad(e, SCHEDULE, 1, 5, "want " + sign + " kind 1;");
                bad(e, SCHEDULE, 1, 6, "want 1" + sign + " kind 1;");
                bad(e, SCHEDULE, 1, 12, "want 1 kind " + sign + ";");
                bad(e, BOOK, 1, 4, "bar " + sign + " when 1;");
                bad(e, BOOK, 1, 5, "bar 1" + sign + "when 1;");
                bad(e, BOOK, 1, 3, "bar" + sign + " 1 when 1;");
                bad(e, PLAN, 1, 4, "drop" + sign + "when 1;");
                bad(e, PLAN, 1, 9, sign == '(' ? "drop when" : "drop when" + sign + "1;");
                bad(e, PLAN, 1, 0, sign + "drop when 1;");
            }
            if (!known && !letter(sign) && !(sign >= '0' && sign <= '9')) {
                bad(e, SCHEDULE, 1, 9, "marks age" + sign + ";");
                bad(e, SCHEDULE, 1, 9, "marks age" + sign);
                bad(e, SCHEDULE, 1, 9, "marks 123" + sign + ";");
                bad(e, SCHEDULE, 1, 9, "marks 123" + sign + "4;");
                bad(e, SCHEDULE, 1, 10, "marks 1234" + sign + ";");
                bad(e, SCHEDULE, 1, 6, "marks " + sign + "age;");
                bad(e, SCHEDULE, 1, 8, "marks 1+" + sign + "1;");
                bad(e, SCHEDULE, 1, 13, "marks entries" + sign + ";");
            }
        }
    }

    // ---- texts that are cut

    /** The whole text has been on the tape before: what is left of it there must not be read. */
    private static void cut(Edges e) {
        e.at(5, "the end being one at the text's length:");
        StringBuilder schedule = new StringBuilder();
        for (String signs : new String[] {SCHEDULES[0], SCHEDULES[1], SCHEDULES[3], SCHEDULES[4]}) {
            schedule.append(signs);
        }
        cutAnywhere(e, SCHEDULE, schedule.toString());
        cutAnywhere(e, BOOK, "bar 12 when age and house or not won;bar 3 when (pieces<4)*(not kinds);");
        cutAnywhere(e, PLAN, PLANS[0] + PLANS[1] + PLANS[2]);
    }

    private static void cutAnywhere(Edges e, int text, String signs) {
        for (int length = 0; length <= signs.length(); length++) {
            String left = signs.substring(0, length);
            VillageShow x = new VillageShow();
            e.due("<" + signs + ">", read(x, text, signs), 0);
            e.due("<" + left + ">", read(x, text, left), faultOf(text, left));
        }
    }

    /** Told by Oracle, which keeps no tape of bytes. */
    private static int faultOf(int text, String signs) {
        Oracle oracle = new Oracle();
        for (int i = 0; i < signs.length(); i += 24) {
            oracle.feed(Checks.pack(signs, i), Checks.pack(signs, i + 8), Checks.pack(signs, i + 16));
        }
        return text == SCHEDULE ? oracle.schedule(0) : text == BOOK ? oracle.book() : oracle.plan();
    }

    private static void cutAtTheEnd(Edges e) {
        e.at(5, "The TAPE has at most 1,000 signs, 10 and 32 .. 126;");
        for (String word : new String[] {"want", "bar", "marks", "tie"}) {
            endsWith(e, SCHEDULE, "", word);
        }
        for (String word : new String[] {"drop", "split", "join"}) {
            endsWith(e, PLAN, "", word);
            endsWith(e, PLAN, word, "when");
        }
        endsWith(e, SCHEDULE, "want 1", "kind");
        endsWith(e, SCHEDULE, "bar 1", "when");
        for (String word : new String[] {"pieces", "kinds", "odd", "size", "spread", "grade", "worst", "age", "house",
            "won", "entries", "not"}) {
            endsWith(e, SCHEDULE, "tie", word);
            endsWith(e, BOOK, "bar 1 when", word);
        }
        for (String word : new String[] {"and", "or"}) {
            endsWith(e, SCHEDULE, "tie 1", word);
        }
    }

    /** A text of 1,000 signs of which the last ones begin the word, or are all of it. */
    private static void endsWith(Edges e, int text, String before, String word) {
        for (int letters = 1; letters <= word.length(); letters++) {
            String signs = before + " ".repeat(1000 - before.length() - letters) + word.substring(0, letters);
            bad(e, text, 1, letters == word.length() ? 1000 : 1000 - letters, signs);
        }
    }

    // ---- depth

    private static void depthBehindSigns(Edges e) {
        e.at(5, "no PART lies within 5 of not and ( ).");
        for (String sign : new String[] {" and ", " or ", "<", "=", "+", "-", "*"}) {
            for (int outer = 0; outer <= 4; outer++) {
                for (String one : new String[] {"(", "not "}) {
                    String open = "(".repeat(outer) + "1" + sign + one.repeat(4 - outer);
                    String close = one.equals("(") ? ")".repeat(4) : ")".repeat(outer);
                    fine(e, SCHEDULE, "tie " + open + "1" + close + ";");
                    bad(e, SCHEDULE, 5, 4 + open.length() + one.length(), "tie " + open + one + "1"
                        + close + (one.equals("(") ? ")" : "") + ";");
                    fine(e, PLAN, "drop when " + open + "now" + close + ";");
                    bad(e, PLAN, 5, 10 + open.length() + one.length(), "drop when " + open + one + "now" + close);
                }
            }
            fine(e, SCHEDULE, "tie ((((1)" + sign + "(1))));");
        }
    }
}
