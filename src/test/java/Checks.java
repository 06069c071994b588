import java.util.NoSuchElementException;

/** What the tests share: comparing answers, feeding texts, and asking whether a call throws as the document says. */
final class Checks {
    interface Call {
        long run();
    }

    private final String name;
    private int made;
    private int wrong;

    Checks(String name) {
        this.name = name;
    }

    void due(String what, long got, long want) {
        made++;
        if (got != want) {
            wrong++;
            System.out.println(what + " answered " + got + ", due is " + want);
        }
    }

    void yes(String what, boolean got) {
        due(what, got ? 1 : 0, 1);
    }

    void no(String what, boolean got) {
        due(what, got ? 1 : 0, 0);
    }

    void refused(String what, Call call) {
        made++;
        try {
            long got = call.run();
            wrong++;
            System.out.println(what + " answered " + got + ", due is a NoSuchElementException");
        } catch (NoSuchElementException e) {
            if (e.getClass() != NoSuchElementException.class) {
                wrong++;
                System.out.println(what + " threw " + e);
            }
        }
    }

    void end() {
        System.out.println(name + ": " + made + " checks, " + wrong + " wrong");
        if (wrong > 0) {
            System.exit(1);
        }
    }

    static int feed(VillageShow show, String text) {
        int there = show.count(9);
        for (int i = 0; i < text.length(); i += 24) {
            there = show.feed(pack(text, i), pack(text, i + 8), pack(text, i + 16));
        }
        return there;
    }

    static long pack(String text, int from) {
        long signs = 0;
        for (int i = 0; i < 8; i++) {
            signs = signs << 8 | (from + i < text.length() ? text.charAt(from + i) & 255 : 0);
        }
        return signs;
    }

    static int schedule(VillageShow show, int kind, String text) {
        feed(show, text);
        return show.schedule(kind);
    }

    static int book(VillageShow show, String text) {
        feed(show, text);
        return show.book();
    }

    static int plan(VillageShow show, String text) {
        feed(show, text);
        return show.plan();
    }
}
