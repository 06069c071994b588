import java.io.IOException;
import java.util.NoSuchElementException;

/** Checks that say for which promise, and for which sentence of DOC.md, they are: the sentence must stand there. */
final class Edges {
    static final int NONE = VillageShow.NONE;
    static final int LOW = Integer.MIN_VALUE;
    static final int HIGH = Integer.MAX_VALUE;
    /** Expressions for the greatest and the least int; numbers on the tape have four digits at most. */
    static final String GREATEST = "9999*9999*21+9999*4790+8416";
    static final String LEAST = "0-(" + GREATEST + ")-1";

    interface On {
        long on(VillageShow show);
    }

    interface Told {
        boolean on(VillageShow show);
    }

    private final Document document;
    private final Checks checks;
    private final String untouched;
    private final String emptied;
    private String label = "";

    Edges(String name) throws IOException {
        document = new Document();
        checks = new Checks(name);
        untouched = Sample.picture(Sample.show());
        emptied = Sample.picture(Sample.emptied());
    }

    /** The checks from here on are for this sentence. */
    void at(int promise, String sentence) {
        checks.yes("DOC.md says for promise " + promise + ": " + sentence, document.quote(promise, sentence));
        label = "promise " + promise + ", \"" + sentence + "\": ";
    }

    void due(String what, long got, long want) {
        checks.due(label + what, got, want);
    }

    void yes(String what, boolean got) {
        checks.yes(label + what, got);
    }

    void no(String what, boolean got) {
        checks.no(label + what, got);
    }

    void refused(String what, Checks.Call call) {
        checks.refused(label + what, call);
    }

    /** The call, on a show in the midst of things, answers as due, and all later answers are as if it had not been. */
    void leaves(String what, long due, On call) {
        VillageShow show = Sample.show();
        due(what, call.on(show), due);
        same(what, untouched, show);
    }

    /** As leaves, but the tape is empty afterwards. */
    void empties(String what, long due, On call) {
        VillageShow show = Sample.show();
        due(what, call.on(show), due);
        same(what, emptied, show);
    }

    /** True is answered, but all is as it was: what is told had been told before. */
    void tellsNothingNew(String what, Told call) {
        VillageShow show = Sample.show();
        yes(what, call.on(show));
        same(what, untouched, show);
    }

    void declines(String what, Told call) {
        VillageShow show = Sample.show();
        no(what, call.on(show));
        same(what, untouched, show);
    }

    void none(String what, On call) {
        leaves(what, NONE, call);
    }

    void refuses(String what, On call) {
        VillageShow show = Sample.show();
        refused(what, () -> call.on(show));
        same(what, untouched, show);
    }

    private void same(String what, String picture, VillageShow show) {
        String[] before = picture.split("\n");
        String[] after = Sample.picture(show).split("\n");
        String other = "";
        for (int i = 0; i < Math.max(before.length, after.length) && other.isEmpty(); i++) {
            String was = i < before.length ? before[i] : "nothing";
            String is = i < after.length ? after[i] : "nothing";
            other = was.equals(is) ? "" : " (" + was + " before, " + is + " after)";
        }
        checks.yes(label + what + " leaves all as it was" + other, other.isEmpty());
    }

    /** Just below, just above, and far out. */
    static int[] outside(int least, int most) {
        return new int[] {least - 1, most + 1, least - 2, most + 2, LOW, HIGH};
    }

    void end() {
        String left = document.left();
        checks.yes("every word of DOC.md is quoted by a test, but for: " + left, left.isEmpty());
        checks.end();
    }
}
