/** Promises 1 to 9, the calls "told": each sentence that names an edge has a test of its own. */
public final class EdgesToldTest {
    private static final int BAD = Edges.BAD, NO = Edges.NO, FULL = Edges.FULL, NONE = Edges.NONE;
    private static final int MIN = Edges.MIN, MAX = Edges.MAX;
    /** 66 times three letters and one of two: with "u1" behind, 200 letters. */
    private static final String LETTERS_198 = "u1;".repeat(66);
    private static final String LETTERS_199 = "u1;".repeat(65) + "u02;";
    private static final String LETTERS_200 = "u1;".repeat(64) + "u02;u02;";

    public static void main(String[] args) {
        newObject();
        write();
        wipe();
        faultPlaces();
        faultForms();
        faultNumbers();
        lay();
        setRanges();
        setAnswers();
        tell();
        take();
        undo();
        refused();
        Edges.end();
    }

    private static void newObject() {
        Edges.edge("1: at first q7,1,0,14;r11,2,3,10;l13,4,0,13;u3;b40,1;", () -> {
            SoundWells x = new SoundWells(), same = Edges.laid(Edges.AT_FIRST);
            Edges.dueCounts(x, 3, 3, 40, 1, 0, 0, 37);
            Edges.duePanel(x, 0, 0, 7, 1, 0, 14);
            Edges.duePanel(x, 1, 1, 11, 2, 3, 10);
            Edges.duePanel(x, 2, 2, 13, 4, 0, 13);
            for (int p = 0; p < 3; p++) {
                for (int i = 0; i < 14; i++) Edges.due("well " + p + " " + i, x.well(p, i), same.well(p, i));
            }
        });
        Edges.edge("1: THE TEXT is empty", () -> {
            Edges.due("letters", new SoundWells().count(5), 0);
            Edges.due("fault", new SoundWells().fault(), NONE);
            Edges.due("wipe", new SoundWells().wipe(), 0);
            Edges.due("lay", new SoundWells().lay(), 0);
            Edges.due("the first letter", new SoundWells().write('u'), 1);
        });
        Edges.edge("1: as told, nothing can be undone", () -> {
            Edges.due("changes", new SoundWells().count(4), 0);
            Edges.due("undo", new SoundWells().undo(), NO);
        });
        Edges.edge("the face: BAD = -1, NO = -2, FULL = -3, NONE = -4, ONE = 1", () -> {
            Edges.due("BAD", SoundWells.BAD, -1);
            Edges.due("NO", SoundWells.NO, -2);
            Edges.due("FULL", SoundWells.FULL, -3);
            Edges.due("NONE", SoundWells.NONE, -4);
            Edges.due("ONE", SoundWells.ONE, 1);
        });
        Edges.edge("the 512th call of an object is still answered", () -> {
            SoundWells x = new SoundWells();
            for (int call = 1; call <= 511; call++) x.tell(0, 4 + call % 2);
            Edges.due("count(4)", x.count(4), 6);
        });
    }

    private static void write() {
        Edges.edge("2: a letter (32 ..)", () -> {
            Edges.due("write 32", new SoundWells().write(32), 1);
            Edges.due("write 31", new SoundWells().write(31), BAD);
        });
        Edges.edge("2: a letter (.. 126)", () -> {
            Edges.due("write 126", new SoundWells().write(126), 1);
            Edges.due("write 127", new SoundWells().write(127), BAD);
        });
        Edges.edge("2: every letter 32 to 126, no other", () -> {
            SoundWells x = new SoundWells();
            for (int letter = 32; letter <= 126; letter++) Edges.due("write " + letter, x.write(letter), letter - 31);
            SoundWells y = new SoundWells();
            for (int letter = -130; letter < 32; letter++) Edges.due("write " + letter, y.write(letter), BAD);
            for (int letter = 127; letter < 300; letter++) Edges.due("write " + letter, y.write(letter), BAD);
            Edges.dueBad("write", y.write('u' + 256), y.write('u' + 65536), y.write(-65536 + 'u'), y.write(MIN), y.write(MAX));
        });
        Edges.edge("2: it comes behind THE TEXT", () -> {
            SoundWells x = Edges.written("u12");
            x.write(';');
            x.lay();
            Edges.due("unit", x.count(1), 12);
        });
        Edges.edge("2: how long it is", () -> {
            SoundWells x = new SoundWells();
            for (int i = 1; i <= 200; i++) Edges.due("write", x.write('a'), i);
        });
        Edges.edge("2: FULL: it has 200", () -> {
            SoundWells x = Edges.written(LETTERS_199);
            Edges.due("the letter 200", x.write('b'), 200);
            Edges.due("the letter 201", x.write('b'), FULL);
            Edges.due("the letter 202", x.write(' '), FULL);
            Edges.due("length", x.count(5), 200);
        });
        Edges.edge("2: FULL, nothing changes then", () -> {
            SoundWells x = Edges.written(LETTERS_200);
            Edges.dueRefused("write to 200", x, FULL, () -> x.write('x'));
            Edges.due("lay of the 200", x.lay(), 0);
            Edges.due("unit", x.count(1), 2);
        });
        Edges.edge("2: of several the first, BAD before FULL", () -> {
            SoundWells x = Edges.written(LETTERS_200);
            Edges.dueBad("write to 200", x.write(31), x.write(127), x.write(MIN), x.write(MAX));
        });
        Edges.edge("2: BAD, nothing changes then", () -> {
            SoundWells x = Edges.written("u1");
            Edges.dueRefused("write 127", x, BAD, () -> x.write(127));
            x.write(';');
            Edges.due("fault", x.fault(), NONE);
        });
    }

    private static void wipe() {
        Edges.edge("3: how long it was (0, 1, 200)", () -> {
            Edges.due("of an empty one", new SoundWells().wipe(), 0);
            Edges.due("of one letter", Edges.written("x").wipe(), 1);
            Edges.due("of a full one", Edges.written(LETTERS_200).wipe(), 200);
        });
        Edges.edge("3: THE TEXT is empty", () -> {
            SoundWells x = Edges.written("x;");
            x.wipe();
            Edges.due("length", x.count(5), 0);
            Edges.due("fault", x.fault(), NONE);
            Edges.due("wipe again", x.wipe(), 0);
        });
        Edges.edge("3: behind a wipe of a full one there is room for 200", () -> {
            SoundWells x = Edges.written(LETTERS_200);
            x.wipe();
            for (int i = 1; i <= 200; i++) Edges.due("write", x.write('a'), i);
            Edges.due("the letter 201", x.write('a'), FULL);
        });
        Edges.edge("3: letters wiped away are not read any more", () -> {
            SoundWells x = Edges.written("u4;u5;");
            Edges.rewrite(x, "u9");
            Edges.due("fault", x.fault(), 0);
            x.write(';');
            x.lay();
            Edges.due("unit", x.count(1), 9);
        });
        Edges.edge("3: LAID and the changes stay", () -> {
            SoundWells x = Edges.written("u4;");
            x.tell(0, 7);
            x.wipe();
            Edges.dueCounts(x, 3, 7, 40, 1, 1, 0, 37);
        });
    }

    private static void faultPlaces() {
        Edges.edge("4: NONE (an empty one, too)", () -> {
            Edges.dueFault("", NONE);
            Edges.dueFault(Edges.AT_FIRST, NONE);
        });
        Edges.edge("4: the place of the first letter of the ITEM", () -> {
            Edges.dueFault("q7,1,0,41;", 0);
            Edges.dueFault("u3;q7,1,0,41;", 3);
            Edges.dueFault("q7,1,0,14;b40,6;u3;", 10);
            Edges.dueFault("q7,1,0,14;r11,2,3,10;l13,4,0,13;u3;b40,1", 35);
        });
        Edges.edge("4: the first ITEM that is not so", () -> {
            Edges.dueFault("u0;u21;x;", 0);
            Edges.dueFault("u1;u21;x;", 3);
            Edges.dueFault("u1;u2;x;u0;", 6);
        });
        Edges.edge("4: a FAULT in the last letter of a full TEXT", () -> {
            Edges.dueFault(LETTERS_199 + "u", 199);
            Edges.dueFault(LETTERS_199 + ";", 199);
            Edges.dueFault(LETTERS_198 + "u1", 198);
            Edges.dueFault(LETTERS_200, NONE);
        });
        Edges.edge("4: or is the fifth PANEL", () -> {
            String one = "q7,1,0,1;";
            Edges.dueFault(one.repeat(4), NONE);
            Edges.dueFault(one.repeat(5), 36);
            Edges.dueFault(one.repeat(6), 36);
            for (String fifth : new String[] {"q5,1,0,1;", "r5,2,0,1;", "l5,1,0,1;"}) Edges.dueFault(one.repeat(4) + fifth, 36);
        });
        Edges.edge("4: of PANELS only the fifth; u and b behind four are fine, before it they do not count", () -> {
            String four = "q7,1,0,1;r7,3,0,1;l7,1,0,1;q7,1,0,1;";
            Edges.dueFault(four + "u3;b40,1;u4;", NONE);
            Edges.dueFault("u3;b40,1;u4;" + four, NONE);
            Edges.dueFault(four + "u3;l7,1,0,1;", 39);
        });
        Edges.edge("4: a fault before the fifth PANEL comes first, also in that PANEL's stead", () -> {
            Edges.dueFault("q7,1,0,1;".repeat(3) + "q7,0,0,1;q7,1,0,1;", 27);
            Edges.dueFault("q7,1,0,1;".repeat(4) + "u0;q7,1,0,1;", 36);
            Edges.dueFault("q7,1,0,1;".repeat(4) + "q7,0,0,1;", 36);
        });
        Edges.edge("4: it is told of THE TEXT, LAID stays", () -> {
            SoundWells x = Edges.written("q7,2,1,3;u9;");
            x.fault();
            Edges.dueCounts(x, 3, 3, 40, 1, 0, 12, 37);
        });
        Edges.edge("4: it is told as THE TEXT stands then", () -> {
            SoundWells x = new SoundWells();
            int[] want = {0, 0, NONE, 3, 3, NONE};
            for (int i = 0; i < 6; i++) {
                x.write("u1;u2;".charAt(i));
                Edges.due("fault behind letter " + i, x.fault(), want[i]);
            }
            SoundWells y = Edges.written("q7,1,0,1;".repeat(4));
            Edges.due("fault of four", y.fault(), NONE);
            Edges.due("fault of four again", y.fault(), NONE);
        });
    }

    private static void faultForms() {
        Edges.edge("4: a ; behind each", () -> {
            Edges.dueFault("u3", 0);
            Edges.dueFault("u3;u4", 3);
            Edges.dueFault("u3u4;", 0);
            Edges.dueFault("u3,", 0);
            Edges.dueFault("q7,1,0,14", 0);
            Edges.dueFault("b40,1", 0);
        });
        Edges.edge("4: ITEMS one behind the other, none empty, nothing between", () -> {
            Edges.dueFault(";", 0);
            Edges.dueFault("u3;;", 3);
            Edges.dueFault("u3;;u3;", 3);
            Edges.dueFault(" u3;", 0);
            Edges.dueFault("u3; u4;", 3);
            Edges.dueFault("u3; ", 3);
            Edges.dueFault("u3 ;", 0);
            Edges.dueFault("u 3;", 0);
        });
        Edges.edge("4: numbers have one figure at least", () -> {
            for (String text : new String[] {"u;", "b,1;", "b40,;", "q,1,0,1;", "q7,,0,1;", "q7,1,,1;", "q7,1,0,;"}) Edges.dueFault(text, 0);
        });
        Edges.edge("4: numbers have three figures at most", () -> {
            Edges.dueFault("u003;b040,001;q007,001,000,014;", NONE);
            for (String text : new String[] {"u0003;", "b0040,1;", "b40,0001;", "q0007,1,0,1;", "q7,0001,0,1;", "q7,1,0000,1;",
                "q7,1,0,0001;", "u4294967297;"}) Edges.dueFault(text, 0);
        });
        Edges.edge("4: numbers are figures alone", () -> {
            for (String text : new String[] {"u-3;", "u+3;", "u3.;", "u:;", "u/;", "u1:;", "u1/;", "ua;", "b4:,1;", "q7,1,0,1x;"}) {
                Edges.dueFault(text, 0);
            }
        });
        Edges.edge("4: qN,F,O,W has four numbers, uU one, bB,K two", () -> {
            for (String text : new String[] {"q7,1,0;", "q7,1,0,1,1;", "r7,3,0;", "r7,3,0,1,1;", "l7,3,0;", "l7,3,0,1,1;", "u3,1;", "u3,;",
                "b40;", "b40,1,1;", "q;", "b;", "q7;1;0;1;", "b40;1;", "q7.1.0.1;"}) Edges.dueFault(text, 0);
        });
        Edges.edge("4: q, r, l, u, b and no other letter", () -> {
            for (char letter = 32; letter <= 126; letter++) {
                boolean panel = letter == 'q' || letter == 'r' || letter == 'l';
                Edges.dueFault(letter + "5,2,0,1;", panel ? NONE : 0);
                Edges.dueFault(letter + "20;", letter == 'u' ? NONE : 0);
                Edges.dueFault(letter + "20,2;", letter == 'b' ? NONE : 0);
            }
        });
        Edges.edge("4: an ITEM that is not so stays so behind others; their numbers do not fill up its own", () -> {
            String before = "b20,2;l5,2,0,1;";
            for (char letter = 32; letter <= 126; letter++) {
                boolean panel = letter == 'q' || letter == 'r' || letter == 'l';
                for (String rest : new String[] {";", "5,2;", "5,2,0;", "5,2,0,1,1;"}) Edges.dueFault(before + letter + rest, 15);
                Edges.dueFault(before + letter + "5;", letter == 'u' ? NONE : 15);
                Edges.dueFault(before + letter + "20,2;", letter == 'b' ? NONE : 15);
                Edges.dueFault(before + letter + "5,2,0,1;", panel ? NONE : 15);
            }
        });
        Edges.edge("4: an ITEM that is not so stays so behind a TEXT that was read before it", () -> {
            SoundWells x = Edges.laid("l5,2,0,1;");
            for (String text : new String[] {"x5;", "q5;", "l5,2;", "r5,2,0;", "b20;", "l;"}) {
                Edges.rewrite(x, text);
                Edges.due("fault of " + text, x.fault(), 0);
                Edges.due("lay of " + text, x.lay(), NO);
            }
        });
    }

    private static void faultNumbers() {
        Edges.edge("4: PRIMES are 3, 5, 7, 11, 13, 17, 19, 23, 29, 31", () -> {
            for (int n = 0; n <= 999; n++) {
                int want = Edges.has(Edges.PRIMES, n) ? NONE : 0;
                Edges.dueFault("q" + n + ",1,0,1;", want);
                Edges.dueFault("l" + n + ",1,0,1;", want);
                if (want != NONE) Edges.dueFault("r" + n + ",2,0,1;", 0);
            }
        });
        Edges.edge("4: of SQUARES F 1 to N - 1", () -> {
            for (int n : Edges.PRIMES) {
                for (int f = 0; f <= 40; f++) Edges.dueFault("q" + n + "," + f + ",0,1;", f >= 1 && f <= n - 1 ? NONE : 0);
                Edges.dueFault("q" + n + ",999,0,1;", 0);
            }
        });
        Edges.edge("4: of POWERS F a ROOT of N (of 3: 2)", () -> {
            for (int i = 0; i < Edges.PRIMES.length; i++) {
                int n = Edges.PRIMES[i];
                for (int f = 0; f <= 99; f++) Edges.dueFault("r" + n + "," + f + ",0,1;", Edges.has(Edges.ROOTS[i], f) ? NONE : 0);
            }
        });
        Edges.edge("4: of SIGNS F 1 to 9", () -> {
            for (int n : Edges.PRIMES) {
                for (int f = 0; f <= 40; f++) Edges.dueFault("l" + n + "," + f + ",0,1;", f >= 1 && f <= 9 ? NONE : 0);
                Edges.dueFault("l" + n + ",999,0,1;", 0);
            }
        });
        Edges.edge("4: an OFFSET (0 to N - 1)", () -> {
            for (int i = 0; i < Edges.PRIMES.length; i++) {
                int n = Edges.PRIMES[i];
                for (int o = 0; o <= 40; o++) {
                    int want = o <= n - 1 ? NONE : 0;
                    Edges.dueFault("q" + n + ",1," + o + ",1;", want);
                    Edges.dueFault("r" + n + "," + Edges.ROOTS[i][0] + "," + o + ",1;", want);
                    Edges.dueFault("l" + n + ",1," + o + ",1;", want);
                }
            }
        });
        Edges.edge("4: so many WELLS (1 to 40)", () -> {
            for (int w = 0; w <= 60; w++) {
                int want = w >= 1 && w <= 40 ? NONE : 0;
                Edges.dueFault("q3,1,0," + w + ";", want);
                Edges.dueFault("r3,2,0," + w + ";", want);
                Edges.dueFault("l3,1,0," + w + ";", want);
            }
            Edges.dueFault("q3,1,0,999;", 0);
        });
        Edges.edge("4: U long (1 to 20)", () -> {
            for (int u = 0; u <= 999; u++) Edges.dueFault("u" + u + ";", u >= 1 && u <= 20 ? NONE : 0);
        });
        Edges.edge("4: B long (20 to 400)", () -> {
            for (int b = 0; b <= 999; b++) Edges.dueFault("b" + b + ",1;", b >= 20 && b <= 400 ? NONE : 0);
        });
        Edges.edge("4: a cut takes K (0 to 5)", () -> {
            for (int k = 0; k <= 999; k++) Edges.dueFault("b40," + k + ";", k <= 5 ? NONE : 0);
        });
        Edges.edge("4: a U or B that does not last is read, too", () -> {
            Edges.dueFault("u0;u3;", 0);
            Edges.dueFault("b19,1;b40,1;", 0);
        });
    }

    private static void lay() {
        Edges.edge("5: LAID is a TEXT without FAULT (an empty one, too)", () -> {
            SoundWells x = new SoundWells();
            Edges.due("lay", x.lay(), 0);
            Edges.dueCounts(x, 0, 3, 100, 1, 0, 0, 0);
        });
        Edges.edge("5: how many PANELS (0 to 4)", () -> {
            for (int many = 0; many <= 4; many++) {
                SoundWells x = Edges.written("u4;" + "q7,1,0,2;".repeat(many) + "b50,2;");
                Edges.due("lay", x.lay(), many);
                Edges.due("PANELS", x.count(0), many);
                Edges.due("the last", x.panel(many - 1, 4), many == 0 ? BAD : 2);
                Edges.due("none behind", x.panel(many, 4), BAD);
            }
        });
        Edges.edge("5: the next PANEL, in the order of the TEXT, q SQUARES, r POWERS, l SIGNS", () -> {
            SoundWells x = Edges.laid("l3,9,2,40;u2;q31,30,30,1;r29,27,28,39;b30,2;q5,4,3,2;");
            Edges.duePanel(x, 0, 2, 3, 9, 2, 40);
            Edges.duePanel(x, 1, 0, 31, 30, 30, 1);
            Edges.duePanel(x, 2, 1, 29, 27, 28, 39);
            Edges.duePanel(x, 3, 0, 5, 4, 3, 2);
        });
        Edges.edge("5: a UNIT is 3 without", () -> Edges.dueCounts(Edges.laid("q7,1,0,1;b50,2;"), 1, 3, 50, 2));
        Edges.edge("5: of several UNITS the last one counts", () -> {
            Edges.due("unit", Edges.laid("u5;u6;u20;u1;").count(1), 1);
            Edges.due("unit", Edges.laid("u1;q7,1,0,1;u20;b50,2;").count(1), 20);
        });
        Edges.edge("5: a BOARD, a cut are 100, 1 without", () -> Edges.dueCounts(Edges.laid("q7,1,0,1;u9;"), 1, 9, 100, 1));
        Edges.edge("5: of several BOARDS the last one counts, its cut with it", () -> {
            Edges.dueCounts(Edges.laid("b400,5;b20,0;"), 0, 3, 20, 0);
            Edges.dueCounts(Edges.laid("b20,0;q7,1,0,1;b400,5;u1;"), 1, 1, 400, 5);
        });
        Edges.edge("5: without u and b it is as told, not as it was", () -> {
            SoundWells x = Edges.laid("u20;b400,5;");
            Edges.rewrite(x, "q7,1,0,1;");
            x.lay();
            Edges.dueCounts(x, 1, 3, 100, 1);
        });
        Edges.edge("5: NO, nothing changes then", () -> {
            for (String text : new String[] {"x", "u4", "q5,1,0,1;u4;b50,2;;", "q7,1,0,1;".repeat(5)}) {
                SoundWells x = Edges.written(text);
                x.tell(0, 8);
                x.set(0, 1, 2);
                Edges.dueRefused("lay", x, NO, x::lay);
                Edges.due("the change can be undone", x.undo(), 1);
                Edges.due("offset", x.panel(0, 3), 0);
            }
        });
        Edges.edge("5: behind LAID none can be UNDONE", () -> {
            SoundWells x = Edges.written("q7,1,0,1;");
            for (int unit = 4; unit <= 10; unit++) x.tell(0, unit);
            x.lay();
            Edges.due("changes", x.count(4), 0);
            Edges.due("undo", x.undo(), NO);
            Edges.due("unit", x.count(1), 3);
            x.tell(0, 5);
            Edges.due("the first change behind it", x.undo(), 0);
            Edges.due("and no more", x.undo(), NO);
        });
        Edges.edge("5: LAID, THE TEXT stays", () -> {
            SoundWells x = Edges.written("q7,1,0,1;");
            x.lay();
            Edges.due("letters", x.count(5), 9);
            x.take(0);
            Edges.due("lay again", x.lay(), 1);
            Edges.append(x, "q7,2,0,1;");
            Edges.due("lay with more", x.lay(), 2);
            Edges.due("wipe", x.wipe(), 18);
            Edges.due("what is LAID stays", x.count(0), 2);
        });
    }

    private static int[] factorsOf(int kind, int at) {
        if (kind == 1) return Edges.ROOTS[at];
        int[] row = new int[kind == 0 ? Edges.PRIMES[at] - 1 : 9];
        for (int i = 0; i < row.length; i++) row[i] = i + 1;
        return row;
    }

    private static void dueFactors(int kind) {
        for (int at = 0; at < Edges.PRIMES.length; at++) {
            int[] fine = factorsOf(kind, at);
            int was = fine[0];
            SoundWells x = Edges.laid("qrl".charAt(kind) + "" + Edges.PRIMES[at] + "," + was + ",0,1;");
            for (int v = -3; v <= 70; v++) {
                int want = !Edges.has(fine, v) ? BAD : v == was ? NO : was;
                Edges.due("set(0, 0, " + v + ") of " + Edges.PRIMES[at], x.set(0, 0, v), want);
                if (want >= 0) was = v;
                Edges.due("FACTOR", x.panel(0, 2), was);
            }
            Edges.dueBad("set(0, 0, ..)", x.set(0, 0, MIN), x.set(0, 0, MAX));
        }
    }

    private static void setRanges() {
        Edges.edge("6: BAD, a PANEL such as there are", () -> {
            SoundWells x = Edges.laid("q7,1,0,1;".repeat(4));
            Edges.due("the first", x.set(0, 1, 1), 0);
            Edges.due("the fourth", x.set(3, 1, 1), 0);
            Edges.dueBad("set(p, 1, 2)", x.set(-1, 1, 2), x.set(4, 1, 2), x.set(MIN, 1, 2), x.set(MAX, 1, 2));
            x.take(0);
            Edges.dueBad("set(3, 1, 2) of three", x.set(3, 1, 2));
            SoundWells none = Edges.laid("");
            Edges.dueBad("set(0, 1, 2) of none", none.set(0, 1, 2), none.set(0, 0, 1), none.set(0, 2, 1));
        });
        Edges.edge("6: BAD, what = 0, 1, 2", () -> {
            SoundWells x = new SoundWells();
            Edges.dueBad("set(0, what, 2)", x.set(0, -1, 2), x.set(0, 3, 2), x.set(0, 4, 2), x.set(0, MIN, 2), x.set(0, MAX, 2));
            Edges.due("changes", x.count(4), 0);
        });
        Edges.edge("6: BAD, what its KIND and PRIME do not allow: FACTOR of SQUARES 1 to N - 1", () -> dueFactors(0));
        Edges.edge("6: BAD, what its KIND and PRIME do not allow: FACTOR of POWERS a ROOT", () -> dueFactors(1));
        Edges.edge("6: BAD, what its KIND and PRIME do not allow: FACTOR of SIGNS 1 to 9", () -> dueFactors(2));
        Edges.edge("6: BAD, OFFSET (0 to N - 1)", () -> {
            for (int at = 0; at < Edges.PRIMES.length; at++) {
                int n = Edges.PRIMES[at];
                SoundWells x = Edges.laid("q" + n + ",1,1,1;r" + n + "," + Edges.ROOTS[at][0] + ",1,1;l" + n + ",1,1,1;");
                for (int p = 0; p < 3; p++) {
                    Edges.due("0 of " + n, x.set(p, 1, 0), 1);
                    Edges.due("N - 1 of " + n, x.set(p, 1, n - 1), 0);
                    Edges.dueBad("of " + n, x.set(p, 1, n), x.set(p, 1, -1), x.set(p, 1, 40), x.set(p, 1, MIN), x.set(p, 1, MAX));
                    Edges.due("OFFSET", x.panel(p, 3), n - 1);
                }
            }
        });
        Edges.edge("6: BAD, WELLS (1 to 40)", () -> {
            SoundWells x = new SoundWells();
            for (int p = 0; p < 3; p++) {
                Edges.due("1", x.set(p, 2, 1), p == 0 ? 14 : p == 1 ? 10 : 13);
                Edges.due("40", x.set(p, 2, 40), 1);
                Edges.dueBad("WELLS", x.set(p, 2, 0), x.set(p, 2, 41), x.set(p, 2, -1), x.set(p, 2, MIN), x.set(p, 2, MAX));
                Edges.due("WELLS", x.panel(p, 4), 40);
            }
        });
    }

    private static void setAnswers() {
        Edges.edge("6: NO: it is so", () -> {
            SoundWells x = new SoundWells();
            Edges.dueRefused("FACTOR", x, NO, () -> x.set(0, 0, 1));
            Edges.dueRefused("OFFSET", x, NO, () -> x.set(1, 1, 3));
            Edges.dueRefused("OFFSET 0", x, NO, () -> x.set(0, 1, 0));
            Edges.dueRefused("WELLS", x, NO, () -> x.set(2, 2, 13));
            x.set(0, 0, 6);
            Edges.due("FACTOR told anew is so", x.set(0, 0, 6), NO);
            Edges.due("and back", x.set(0, 0, 1), 6);
        });
        Edges.edge("6: of several the first, BAD before NO", () -> {
            SoundWells x = new SoundWells();
            Edges.dueBad("what 3 with its WELLS, none's PANEL", x.set(0, 3, 14), x.set(3, 2, 13), x.set(-1, 2, 14));
        });
        Edges.edge("6: what it was (0, too)", () -> {
            SoundWells x = new SoundWells();
            Edges.due("OFFSET", x.set(0, 1, 6), 0);
            Edges.due("OFFSET", x.set(0, 1, 0), 6);
            Edges.due("FACTOR", x.set(1, 0, 8), 2);
            Edges.due("FACTOR", x.set(1, 0, 6), 8);
            Edges.due("WELLS", x.set(2, 2, 40), 13);
            Edges.due("WELLS", x.set(2, 2, 1), 40);
        });
        Edges.edge("6: of a PANEL, all else stays", () -> {
            SoundWells x = Edges.laid("q7,2,1,3;q7,2,1,3;q7,2,1,3;");
            x.set(1, 0, 3);
            Edges.duePanel(x, 1, 0, 7, 3, 1, 3);
            x.set(1, 1, 2);
            Edges.duePanel(x, 1, 0, 7, 3, 2, 3);
            x.set(1, 2, 4);
            Edges.duePanel(x, 1, 0, 7, 3, 2, 4);
            Edges.duePanel(x, 0, 0, 7, 2, 1, 3);
            Edges.duePanel(x, 2, 0, 7, 2, 1, 3);
            Edges.dueCounts(x, 3, 3, 100, 1, 3, 27, 10);
        });
    }

    private static void dueMeasure(int what, int low, int high, int inside) {
        SoundWells x = Edges.laid("u4;b50,3;");
        int was = what == 0 ? 4 : what == 1 ? 50 : 3;
        Edges.due("the lowest", x.tell(what, low), was);
        Edges.due("the highest", x.tell(what, high), low);
        Edges.dueBad("tell(" + what + ", ..)", x.tell(what, low - 1), x.tell(what, high + 1), x.tell(what, -inside), x.tell(what, MIN), x.tell(what, MAX));
        Edges.due("it stays", x.count(1 + what), high);
        Edges.due("one inside", x.tell(what, inside), high);
        Edges.due("two of three stay", (x.count(1) == 4 ? 1 : 0) + (x.count(2) == 50 ? 1 : 0) + (x.count(3) == 3 ? 1 : 0), 2);
    }

    private static void tell() {
        Edges.edge("7: BAD, UNIT (1 to 20)", () -> dueMeasure(0, 1, 20, 7));
        Edges.edge("7: BAD, BOARD (20 to 400)", () -> dueMeasure(1, 20, 400, 77));
        Edges.edge("7: BAD, cut (0 to 5)", () -> dueMeasure(2, 0, 5, 2));
        Edges.edge("7: BAD, what = 0, 1, 2", () -> {
            SoundWells x = new SoundWells();
            Edges.dueBad("tell(what, ..)", x.tell(-1, 4), x.tell(3, 4), x.tell(3, 20), x.tell(MIN, 4), x.tell(MAX, 4));
            Edges.due("changes", x.count(4), 0);
        });
        Edges.edge("7: NO: it is so", () -> {
            SoundWells x = new SoundWells();
            Edges.dueRefused("UNIT", x, NO, () -> x.tell(0, 3));
            Edges.dueRefused("BOARD", x, NO, () -> x.tell(1, 40));
            Edges.dueRefused("cut", x, NO, () -> x.tell(2, 1));
            x.tell(2, 0);
            Edges.due("cut 0 is so", x.tell(2, 0), NO);
        });
        Edges.edge("7: what it was (0, too)", () -> {
            SoundWells x = new SoundWells();
            Edges.due("cut", x.tell(2, 0), 1);
            Edges.due("cut", x.tell(2, 5), 0);
            Edges.due("UNIT", x.tell(0, 20), 3);
            Edges.due("BOARD", x.tell(1, 400), 40);
        });
        Edges.edge("7: it can be told without PANELS, too", () -> Edges.due("UNIT", Edges.laid("").tell(0, 4), 3));
    }

    private static void dueTaken(int taken, int... primes) {
        SoundWells x = Edges.laid("q3,1,0,1;q5,1,0,2;q7,1,0,3;q11,1,0,4;");
        Edges.due("take " + taken, x.take(taken), 3);
        for (int p = 0; p < 3; p++) Edges.due("PRIME of " + p + " behind take " + taken, x.panel(p, 1), primes[p]);
        Edges.due("none is the fourth", x.panel(3, 1), BAD);
    }

    private static void take() {
        Edges.edge("8: those behind it are one number lower", () -> {
            dueTaken(0, 5, 7, 11);
            dueTaken(1, 3, 7, 11);
            dueTaken(2, 3, 5, 11);
            dueTaken(3, 3, 5, 7);
        });
        Edges.edge("8: how many are left (0, too)", () -> {
            SoundWells x = Edges.laid("q3,1,0,1;q5,1,0,2;q7,1,0,3;q11,1,0,4;");
            for (int left = 3; left >= 0; left--) Edges.due("take", x.take(0), left);
            Edges.due("PANELS", x.count(0), 0);
        });
        Edges.edge("8: BAD, a PANEL such as there are", () -> {
            SoundWells x = new SoundWells();
            for (int p : new int[] {-1, 3, 4, MIN, MAX}) Edges.dueRefused("take " + p, x, BAD, () -> x.take(p));
        });
        Edges.edge("8: BAD, when there is none any more", () -> {
            SoundWells x = Edges.laid("q3,1,0,1;");
            x.take(0);
            Edges.dueRefused("take", x, BAD, () -> x.take(0));
            Edges.dueBad("take of none LAID", Edges.laid("").take(0));
        });
    }

    private static void undo() {
        Edges.edge("9: NO, when there is no change", () -> {
            SoundWells x = new SoundWells();
            Edges.dueRefused("undo", x, NO, x::undo);
            x.tell(0, 4);
            x.undo();
            Edges.dueRefused("undo of no more", x, NO, x::undo);
        });
        Edges.edge("9: UNDONE is the latest change", () -> {
            SoundWells x = new SoundWells();
            x.tell(0, 4);
            x.tell(1, 50);
            x.undo();
            Edges.dueCounts(x, 3, 4, 40, 1);
            x.undo();
            Edges.dueCounts(x, 3, 3, 40, 1);
        });
        Edges.edge("9: the last 6 can be", () -> {
            SoundWells x = new SoundWells();
            for (int unit = 4; unit <= 9; unit++) x.tell(0, unit);
            Edges.due("six", x.count(4), 6);
            x.tell(0, 10);
            Edges.due("a seventh", x.count(4), 6);
            for (int more = 5; more >= 0; more--) {
                Edges.due("undo", x.undo(), more);
                Edges.due("unit", x.count(1), 4 + more);
            }
            Edges.due("the seventh", x.undo(), NO);
            Edges.due("unit", x.count(1), 4);
        });
        Edges.edge("9: how many more can be (5 to 0)", () -> {
            SoundWells x = new SoundWells();
            for (int unit = 4; unit <= 9; unit++) x.tell(0, unit);
            for (int more = 5; more >= 0; more--) {
                Edges.due("undo", x.undo(), more);
                Edges.due("changes", x.count(4), more);
            }
        });
        Edges.edge("9: what is UNDONE is no change and does not come back", () -> {
            SoundWells x = new SoundWells();
            x.tell(0, 4);
            x.tell(0, 5);
            x.undo();
            x.tell(0, 6);
            Edges.due("changes", x.count(4), 2);
            Edges.due("undo", x.undo(), 1);
            Edges.due("unit", x.count(1), 4);
        });
        for (int kind = 0; kind < 7; kind++) {
            int one = kind;
            String[] names = {"FACTOR", "OFFSET", "WELLS", "UNIT", "BOARD", "cut", "a PANEL taken away"};
            Edges.edge("9: a change: " + names[kind], () -> dueUndone(one));
        }
        Edges.edge("9: what is asked is no change", () -> {
            SoundWells x = new SoundWells();
            x.write('u');
            x.wipe();
            x.fault();
            x.best(0, 0);
            x.cut(0);
            x.where(0, 0);
            Edges.due("changes", x.count(4), 0);
        });
        Edges.edge("9: THE TEXT stays", () -> {
            SoundWells x = new SoundWells();
            x.tell(0, 4);
            x.write('u');
            x.undo();
            Edges.due("letters", x.count(5), 1);
        });
        Edges.edge("9: undone as often as can be in turn with changes", () -> {
            SoundWells x = new SoundWells();
            for (int i = 0; i < 100; i++) {
                Edges.due("take", x.take(i % 3), 2);
                Edges.due("undo", x.undo(), 0);
            }
            Edges.duePanel(x, 1, 1, 11, 2, 3, 10);
        });
    }

    /** Makes one of the seven kinds of change; a new object's second PANEL. */
    private static int change(SoundWells x, int kind) {
        switch (kind) {
            case 0: return x.set(1, 0, 8);
            case 1: return x.set(1, 1, 9);
            case 2: return x.set(1, 2, 20);
            case 3: return x.tell(0, 9);
            case 4: return x.tell(1, 90);
            case 5: return x.tell(2, 4);
            default: return x.take(1);
        }
    }

    private static void dueUndone(int kind) {
        SoundWells x = new SoundWells();
        String before = Edges.look(x);
        int well = x.well(1, 0), boards = x.cut(0);
        int was = kind < 3 ? x.panel(1, 2 + kind) : kind < 6 ? x.count(kind - 2) : 2;
        Edges.due("the change", change(x, kind), was);
        Edges.due("changes", x.count(4), 1);
        Edges.due("undo", x.undo(), 0);
        Edges.due("all", Edges.look(x), before);
        Edges.due("well", x.well(1, 0), well);
        Edges.due("boards", x.cut(0), boards);
    }

    private static SoundWells changed() {
        SoundWells x = Edges.written("u4;");
        for (int kind = 0; kind < 6; kind++) change(x, kind);
        return x;
    }

    private static void refused() {
        Edges.edge("nothing changes then, nor what can be UNDONE (2 to 9)", () -> {
            SoundWells x = changed();
            Edges.dueRefused("write", x, BAD, () -> x.write(127));
            Edges.dueRefused("set", x, BAD, () -> x.set(1, 0, 1));
            Edges.dueRefused("set as it is", x, NO, () -> x.set(1, 0, 8));
            Edges.dueRefused("tell", x, BAD, () -> x.tell(0, 21));
            Edges.dueRefused("tell as it is", x, NO, () -> x.tell(0, 9));
            Edges.dueRefused("take", x, BAD, () -> x.take(3));
            x.write('x');
            Edges.dueRefused("lay", x, NO, x::lay);
            for (int more = 5; more >= 0; more--) Edges.due("undo", x.undo(), more);
            Edges.dueRefused("undo", x, NO, x::undo);
            Edges.dueCounts(x, 3, 3, 40, 1, 0, 4, 37);
            Edges.duePanel(x, 1, 1, 11, 2, 3, 10);
        });
    }
}
