import java.util.function.IntSupplier;

/** What the tests of edges share: a sentence of the document at a time, and which of them are broken. */
final class Edges {
    static final int BAD = -1, NO = -2, FULL = -3, NONE = -4;
    static final int MIN = Integer.MIN_VALUE, MAX = Integer.MAX_VALUE;
    static final String AT_FIRST = "q7,1,0,14;r11,2,3,10;l13,4,0,13;u3;b40,1;";
    static final int[] PRIMES = {3, 5, 7, 11, 13, 17, 19, 23, 29, 31};
    /** Written down from tables, so that a test does not reckon as the class does. */
    static final int[][] SQUARES = {{1}, {1, 4}, {1, 2, 4}, {1, 3, 4, 5, 9}, {1, 3, 4, 9, 10, 12},
        {1, 2, 4, 8, 9, 13, 15, 16}, {1, 4, 5, 6, 7, 9, 11, 16, 17}, {1, 2, 3, 4, 6, 8, 9, 12, 13, 16, 18},
        {1, 4, 5, 6, 7, 9, 13, 16, 20, 22, 23, 24, 25, 28}, {1, 2, 4, 5, 7, 8, 9, 10, 14, 16, 18, 19, 20, 25, 28}};
    static final int[][] ROOTS = {{2}, {2, 3}, {3, 5}, {2, 6, 7, 8}, {2, 6, 7, 11}, {3, 5, 6, 7, 10, 11, 12, 14},
        {2, 3, 10, 13, 14, 15}, {5, 7, 10, 11, 14, 15, 17, 19, 20, 21}, {2, 3, 8, 10, 11, 14, 15, 18, 19, 21, 26, 27},
        {3, 11, 12, 13, 17, 21, 22, 24}};

    private static String sentence = "";
    private static int sentences = 0, broken = 0, wrong = 0;

    private Edges() { }

    /** One sentence, told by the promise's number and the document's words, and its own test. */
    static void edge(String words, Runnable test) {
        sentence = words;
        sentences++;
        int wrongBefore = wrong;
        try {
            test.run();
        } catch (RuntimeException thrown) {
            wrong++;
            System.out.println("[" + words + "] a call threw " + thrown);
        }
        if (wrong > wrongBefore) broken++;
    }

    static void due(String call, long got, long want) {
        if (got == want) return;
        wrong++;
        System.out.println("[" + sentence + "] " + call + " answered " + got + ", due is " + want);
    }

    static void due(String call, String got, String want) {
        if (got.equals(want)) return;
        wrong++;
        System.out.println("[" + sentence + "] " + call + ": " + got + ", due is " + want);
    }

    static void end() {
        System.out.println(broken == 0 ? sentences + " sentences hold" : broken + " of " + sentences + " sentences are broken");
        if (broken != 0) System.exit(1);
    }

    static boolean has(int[] row, int n) {
        for (int one : row) if (one == n) return true;
        return false;
    }

    static SoundWells written(String text) {
        SoundWells x = new SoundWells();
        append(x, text);
        return x;
    }

    static void append(SoundWells x, String text) {
        for (int i = 0; i < text.length(); i++) x.write(text.charAt(i));
    }

    static void rewrite(SoundWells x, String text) {
        x.wipe();
        append(x, text);
    }

    static SoundWells laid(String text) {
        SoundWells x = written(text);
        if (x.lay() < 0) due("lay of " + text + ", fault", x.fault(), NONE);
        return x;
    }

    static void dueFault(String text, int want) {
        due("fault of " + text, written(text).fault(), want);
        SoundWells x = written(text);
        due("lay of " + text + " is refused", x.lay() == NO ? 1 : 0, want == NONE ? 0 : 1);
    }

    /** All that is laid, can be undone and is written, in one line; some thirty calls. */
    static String look(SoundWells x) {
        StringBuilder seen = new StringBuilder();
        for (int what = 0; what <= 6; what++) seen.append(x.count(what)).append(' ');
        for (int p = 0; p < x.count(0); p++) {
            seen.append('|');
            for (int what = 0; what <= 4; what++) seen.append(x.panel(p, what)).append(' ');
        }
        return seen.append("| fault ").append(x.fault()).toString();
    }

    static void dueRefused(String name, SoundWells x, int want, IntSupplier call) {
        String before = look(x);
        due(name, call.getAsInt(), want);
        due("all behind " + name, look(x), before);
    }

    static void dueBad(String name, int... answers) {
        for (int i = 0; i < answers.length; i++) due(name + ", the one numbered " + i, answers[i], BAD);
    }

    static void duePanel(SoundWells x, int p, int... want) {
        for (int what = 0; what < want.length; what++) due("panel(" + p + ", " + what + ")", x.panel(p, what), want[what]);
    }

    static void dueWells(SoundWells x, int p, int... want) {
        for (int i = 0; i < want.length; i++) due("well(" + p + ", " + i + ")", x.well(p, i), want[i]);
    }

    static void dueCounts(SoundWells x, int... want) {
        for (int what = 0; what < want.length; what++) due("count(" + what + ")", x.count(what), want[what]);
    }

    static void dueCut(SoundWells x, int... want) {
        for (int what = 0; what < want.length; what++) due("cut(" + what + ")", x.cut(what), want[what]);
    }

    static void dueBoard(SoundWells x, int b, int... want) {
        for (int what = 0; what < want.length; what++) due("board(" + b + ", " + what + ")", x.board(b, what), want[what]);
    }

    static void dueWhere(SoundWells x, int p, int... want) {
        for (int i = 0; i < want.length; i++) due("where(" + p + ", " + i + ")", x.where(p, i), want[i]);
    }
}
