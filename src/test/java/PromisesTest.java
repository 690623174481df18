/** Each promise of the document with ordinary inputs, its edges and wrong inputs; answers worked out by hand. */
public final class PromisesTest {
    private static final int BAD = -1, NO = -2, FULL = -3, NONE = -4;
    private static final int MIN = Integer.MIN_VALUE, MAX = Integer.MAX_VALUE;
    private static final int[] PRIMES = {3, 5, 7, 11, 13, 17, 19, 23, 29, 31};
    private static int wrong = 0;

    public static void main(String[] args) {
        newObject();
        writing();
        wiping();
        faults();
        faultsOfRanges();
        laying();
        setting();
        telling();
        taking();
        undoing();
        squares();
        signs();
        roots();
        laws();
        panels();
        panelMeasures();
        wells();
        counts();
        planes();
        cutting();
        boards();
        wheres();
        bests();
        counting();
        System.out.println(wrong == 0 ? "all promises hold" : wrong + " answers are wrong");
        if (wrong != 0) System.exit(1);
    }

    private static void due(String what, long got, long want) {
        if (got == want) return;
        wrong++;
        System.out.println(what + " answered " + got + ", due is " + want);
    }

    private static void rewrite(SoundWells x, String text) {
        x.wipe();
        for (int i = 0; i < text.length(); i++) due("write of " + text, x.write(text.charAt(i)), i + 1);
    }

    private static SoundWells laid(String text) {
        SoundWells x = new SoundWells();
        rewrite(x, text);
        due("fault of " + text, x.fault(), NONE);
        x.lay();
        return x;
    }

    private static void dueFault(String text, int want) {
        SoundWells x = new SoundWells();
        rewrite(x, text);
        due("fault of " + text, x.fault(), want);
        if (want != NONE) due("lay of " + text, x.lay(), NO);
    }

    private static void duePanel(String name, SoundWells x, int p, int... want) {
        for (int what = 0; what < want.length; what++) {
            due(name + " panel(" + p + ", " + what + ")", x.panel(p, what), want[what]);
        }
    }

    private static void dueWells(String name, SoundWells x, int p, int... want) {
        for (int i = 0; i < want.length; i++) due(name + " well(" + p + ", " + i + ")", x.well(p, i), want[i]);
        due(name + " wells", x.panel(p, 4), want.length);
        due(name + " well behind the last", x.well(p, want.length), BAD);
    }

    private static void newObject() {
        SoundWells x = new SoundWells();
        int[] counted = {3, 3, 40, 1, 0, 0, 37};
        for (int what = 0; what < counted.length; what++) due("1 count " + what, x.count(what), counted[what]);
        duePanel("1", x, 0, 0, 7, 1, 0, 14, 7, 4, 28, 4, 0, 0);
        duePanel("1", x, 1, 1, 11, 2, 3, 10, 10, 10, 55, 10, 0, 1);
        duePanel("1", x, 2, 2, 13, 4, 0, 13, 13, 4, 24, 2, 0, 7);
        due("1 fault", x.fault(), NONE);
        due("1 undo", x.undo(), NO);
        due("1 wipe", x.wipe(), 0);
        x.set(0, 1, 4);
        due("1 objects are apart", new SoundWells().panel(0, 3), 0);
    }

    private static void writing() {
        SoundWells x = new SoundWells();
        int[] none = {31, 127, 0, -1, 10, 233, 32 + 65536, MIN, MAX};
        for (int letter : none) due("2 write " + letter, x.write(letter), BAD);
        due("2 nothing changes", x.count(5), 0);
        due("2 write 32", x.write(32), 1);
        due("2 write 126", x.write(126), 2);
        for (int i = 3; i <= 200; i++) due("2 write", x.write('a'), i);
        due("2 write to a full text", x.write('a'), FULL);
        due("2 BAD comes before FULL", x.write(31), BAD);
        due("2 still 200", x.count(5), 200);
    }

    private static void wiping() {
        SoundWells x = new SoundWells();
        rewrite(x, "u4;");
        due("3 wipe", x.wipe(), 3);
        due("3 wipe again", x.wipe(), 0);
        due("3 empty", x.count(5), 0);
        due("3 what is LAID stays", x.count(0), 3);
        for (int i = 0; i < 200; i++) x.write('u');
        due("3 wipe of all", x.wipe(), 200);
        due("3 room again", x.write('u'), 1);
        rewrite(x, "u4;u5;");
        rewrite(x, "u4");
        due("3 wiped letters are not read", x.fault(), 0);
    }

    private static void faults() {
        dueFault("", NONE);
        dueFault("q7,1,0,14;r11,2,3,10;l13,4,0,13;u3;b40,1;", NONE);
        dueFault("u3;u5;b20,0;b400,5;", NONE);
        dueFault("q007,001,000,009;u01;b020,00;", NONE);
        dueFault("u3", 0);
        dueFault("u3;u3", 3);
        dueFault("u3;;", 3);
        dueFault(";", 0);
        dueFault(" u3;", 0);
        dueFault("u3; u3;", 3);
        dueFault("u 3;", 0);
        dueFault("u3 ;", 0);
        dueFault("u;", 0);
        dueFault("u", 0);
        dueFault("u0003;", 0);
        dueFault("u-3;", 0);
        dueFault("u:;", 0);
        dueFault("u1:;", 0);
        dueFault("u1/;", 0);
        dueFault("b2:,1;", 0);
        dueFault("q7,1,0,:;", 0);
        dueFault("u+3;", 0);
        dueFault("u3,;", 0);
        dueFault("u3,1;", 0);
        dueFault("b40;", 0);
        dueFault("b40,;", 0);
        dueFault("b40,1,1;", 0);
        dueFault("b0040,1;", 0);
        dueFault("q7,1,0;", 0);
        dueFault("q7,1,0,1,1;", 0);
        dueFault("q7,1,,1;", 0);
        dueFault("q7;1;0;1;", 0);
        dueFault("q7,1,0,1,", 0);
        dueFault("Q7,1,0,1;", 0);
        dueFault("x7,1,0,1;", 0);
        dueFault("7,1,0,1;", 0);
        dueFault("u3;q7,1,0,1;q7,1,0,1;u2;q7,1,0,1;q7,1,0,1;u4;b50,1;", NONE);
        dueFault("u3;q7,1,0,1;q7,1,0,1;u2;q7,1,0,1;r7,3,0,1;u4;l7,1,0,1;b50,1;", 45);
        dueFault("q7,1,0,1;u0;x", 9);
        dueFault("u1;".repeat(66) + "u1", 198);
        dueFault("u1;".repeat(60) + "u02;".repeat(5), NONE);
    }

    private static void faultsOfRanges() {
        for (int n = 0; n <= 40; n++) {
            boolean prime = false;
            for (int known : PRIMES) prime |= known == n;
            dueFault("q" + n + ",1,0,1;", prime ? NONE : 0);
            dueFault("l" + n + ",1,0,1;", prime ? NONE : 0);
        }
        for (int f = 0; f <= 14; f++) {
            dueFault("q11," + f + ",0,1;", f >= 1 && f <= 10 ? NONE : 0);
            dueFault("r11," + f + ",0,1;", f == 2 || f == 6 || f == 7 || f == 8 ? NONE : 0);
            dueFault("l11," + f + ",0,1;", f >= 1 && f <= 9 ? NONE : 0);
            dueFault("q11,1," + f + ",1;", f <= 10 ? NONE : 0);
            dueFault("r11,2," + f + ",1;", f <= 10 ? NONE : 0);
            dueFault("l11,1," + f + ",1;", f <= 10 ? NONE : 0);
        }
        dueFault("r3,2,2,1;", NONE);
        dueFault("r3,1,0,1;", 0);
        dueFault("l3,9,2,1;", NONE);
        dueFault("q7,1,0,0;", 0);
        dueFault("q7,1,0,40;", NONE);
        dueFault("q7,1,0,41;", 0);
        dueFault("q7,1,0,999;", 0);
        dueFault("u0;", 0);
        dueFault("u1;", NONE);
        dueFault("u20;", NONE);
        dueFault("u21;", 0);
        dueFault("b19,0;", 0);
        dueFault("b20,0;", NONE);
        dueFault("b400,0;", NONE);
        dueFault("b401,0;", 0);
        dueFault("b40,5;", NONE);
        dueFault("b40,6;", 0);
    }

    private static void laying() {
        SoundWells x = new SoundWells();
        due("5 lay of an empty text", x.lay(), 0);
        due("5 no panels", x.count(0), 0);
        due("5 unit without", x.count(1), 3);
        due("5 board without", x.count(2), 100);
        due("5 cut without", x.count(3), 1);
        rewrite(x, "u5;b50,2;q7,2,1,3;u6;r5,3,4,2;b60,3;l3,9,2,1;");
        due("5 lay", x.lay(), 3);
        due("5 the text stays", x.count(5), 45);
        duePanel("5", x, 0, 0, 7, 2, 1, 3);
        duePanel("5", x, 1, 1, 5, 3, 4, 2);
        duePanel("5", x, 2, 2, 3, 9, 2, 1);
        due("5 the last unit counts", x.count(1), 6);
        due("5 the last board counts", x.count(2), 60);
        due("5 the last cut counts", x.count(3), 3);
        x.set(0, 1, 0);
        x.tell(0, 9);
        rewrite(x, "q7,2,1,3;u21;");
        due("5 lay with a fault", x.lay(), NO);
        due("5 nothing changes", x.count(0), 3);
        due("5 unit stays", x.count(1), 9);
        due("5 changes stay", x.count(4), 2);
        rewrite(x, "q7,2,1,3;");
        due("5 lay one", x.lay(), 1);
        due("5 lay forgets changes", x.count(4), 0);
        due("5 lay can not be undone", x.undo(), NO);
        due("5 unit is 3 again", x.count(1), 3);
        due("5 board is 100 again", x.count(2), 100);
        x.set(0, 2, 9);
        due("5 lay again", x.lay(), 1);
        due("5 as in the text again", x.panel(0, 4), 3);
    }

    private static void setting() {
        SoundWells x = laid("q7,2,1,3;r11,2,3,10;l3,4,0,13;");
        int[][] bad = {{-1, 0, 1}, {3, 0, 1}, {4, 0, 1}, {MIN, 0, 1}, {MAX, 0, 1}, {0, -1, 1}, {0, 3, 1}, {0, MAX, 1},
            {0, 0, 0}, {0, 0, 7}, {0, 0, -1}, {0, 0, MAX}, {0, 1, -1}, {0, 1, 7}, {0, 2, 0}, {0, 2, 41}, {0, 2, MIN},
            {1, 0, 1}, {1, 0, 3}, {1, 0, 10}, {1, 0, 13}, {1, 0, MAX}, {1, 1, 11}, {2, 0, 0}, {2, 0, 10}, {2, 1, 3}};
        for (int[] c : bad) due("6 set " + c[0] + " " + c[1] + " " + c[2], x.set(c[0], c[1], c[2]), BAD);
        due("6 no factor told anew", x.set(0, 0, 2), NO);
        due("6 no offset told anew", x.set(0, 1, 1), NO);
        due("6 no wells told anew", x.set(0, 2, 3), NO);
        due("6 nothing changed", x.count(4), 0);
        due("6 factor", x.set(0, 0, 6), 2);
        due("6 offset", x.set(0, 1, 6), 1);
        due("6 wells", x.set(0, 2, 40), 3);
        due("6 three changes", x.count(4), 3);
        duePanel("6", x, 0, 0, 7, 6, 6, 40, 7);
        due("6 factor of powers", x.set(1, 0, 8), 2);
        due("6 offset of powers", x.set(1, 1, 10), 3);
        due("6 factor of signs above the prime", x.set(2, 0, 9), 4);
        due("6 wells of signs", x.set(2, 2, 1), 13);
        duePanel("6", x, 1, 1, 11, 8, 10, 10, 10);
        duePanel("6", x, 2, 2, 3, 9, 0, 1, 3);
        due("6 the text stays", x.count(5), 30);
    }

    private static void telling() {
        SoundWells x = new SoundWells();
        int[][] bad = {{-1, 5}, {3, 5}, {MIN, 5}, {0, 0}, {0, 21}, {0, MIN}, {1, 19}, {1, 401}, {1, MAX}, {2, -1}, {2, 6}};
        for (int[] c : bad) due("7 tell " + c[0] + " " + c[1], x.tell(c[0], c[1]), BAD);
        due("7 unit is so", x.tell(0, 3), NO);
        due("7 board is so", x.tell(1, 40), NO);
        due("7 cut is so", x.tell(2, 1), NO);
        due("7 nothing changed", x.count(4), 0);
        due("7 unit", x.tell(0, 20), 3);
        due("7 unit", x.tell(0, 1), 20);
        due("7 board", x.tell(1, 400), 40);
        due("7 board", x.tell(1, 20), 400);
        due("7 cut", x.tell(2, 5), 1);
        due("7 cut", x.tell(2, 0), 5);
        due("7 unit now", x.count(1), 1);
        due("7 board now", x.count(2), 20);
        due("7 cut now", x.count(3), 0);
        due("7 panels stay", x.count(0), 3);
    }

    private static void taking() {
        SoundWells x = laid("q3,1,0,1;q5,1,0,1;q7,1,0,1;q11,1,0,1;");
        for (int p : new int[] {-1, 4, MIN, MAX}) due("8 take " + p, x.take(p), BAD);
        due("8 take the second", x.take(1), 3);
        due("8 the first stays", x.panel(0, 1), 3);
        due("8 the third is the second", x.panel(1, 1), 7);
        due("8 the fourth is the third", x.panel(2, 1), 11);
        due("8 none is the fourth", x.panel(3, 1), BAD);
        due("8 take the last", x.take(2), 2);
        due("8 take the first", x.take(0), 1);
        due("8 what is left", x.panel(0, 1), 7);
        due("8 take all", x.take(0), 0);
        due("8 take of none", x.take(0), BAD);
        due("8 four changes", x.count(4), 4);
        due("8 undo", x.undo(), 3);
        due("8 undo", x.undo(), 2);
        due("8 the first is back", x.panel(0, 1), 3);
        due("8 undo", x.undo(), 1);
        due("8 undo", x.undo(), 0);
        due("8 the second is back", x.panel(1, 1), 5);
        due("8 the fourth is back", x.panel(3, 1), 11);
    }

    private static void undoing() {
        SoundWells x = new SoundWells();
        due("9 undo of nothing", x.undo(), NO);
        for (int unit = 4; unit <= 11; unit++) x.tell(0, unit);
        due("9 six at most", x.count(4), 6);
        for (int more = 5; more >= 0; more--) {
            due("9 undo", x.undo(), more);
            due("9 unit", x.count(1), 5 + more);
        }
        due("9 the seventh", x.undo(), NO);
        due("9 stays", x.count(1), 5);
        x.set(1, 0, 7);
        x.set(1, 1, 9);
        x.set(1, 2, 11);
        x.tell(1, 77);
        x.tell(2, 3);
        x.take(1);
        due("9 undo take", x.undo(), 5);
        duePanel("9", x, 1, 1, 11, 7, 9, 11);
        due("9 undo cut", x.undo(), 4);
        due("9 cut", x.count(3), 1);
        due("9 undo board", x.undo(), 3);
        due("9 board", x.count(2), 40);
        due("9 a change behind an undo", x.tell(2, 0), 1);
        due("9 counts", x.count(4), 4);
        due("9 undo", x.undo(), 3);
        due("9 undo wells", x.undo(), 2);
        due("9 wells", x.panel(1, 4), 10);
        due("9 undo offset", x.undo(), 1);
        due("9 offset", x.panel(1, 3), 3);
        due("9 undo factor", x.undo(), 0);
        due("9 factor", x.panel(1, 2), 2);
        due("9 the row, too", x.well(1, 0), 5);
        x.write('u');
        x.tell(0, 9);
        x.undo();
        due("9 the text stays", x.count(5), 1);
    }

    private static void squares() {
        SoundWells x = new SoundWells();
        due("10 of 3", x.squares(3), 2);
        due("10 of 5", x.squares(5), 2 + 16);
        due("10 of 7", x.squares(7), 2 + 4 + 16);
        due("10 of 11", x.squares(11), 2 + 8 + 16 + 32 + 512);
        int of31 = 0;
        for (int s : new int[] {1, 2, 4, 5, 7, 8, 9, 10, 14, 16, 18, 19, 20, 25, 28}) of31 |= 1 << s;
        due("10 of 31", x.squares(31), of31);
        for (int n : PRIMES) due("10 half of them " + n, Integer.bitCount(x.squares(n)), (n - 1) / 2);
        for (int n : new int[] {0, 1, 2, 4, 9, 15, 21, 25, 27, 33, 37, -3, -7, MIN, MAX}) due("10 of " + n, x.squares(n), BAD);
    }

    private static void signs() {
        SoundWells x = new SoundWells();
        for (int a = 0; a <= 999; a++) {
            int r = a % 7;
            due("11 sign " + a, new SoundWells().sign(a, 7), r == 0 ? 1 : r == 1 || r == 2 || r == 4 ? 2 : 0);
        }
        due("11 of 31 by 31", x.sign(31, 31), 1);
        due("11 of 30 by 31", x.sign(30, 31), 0);
        due("11 of 28 by 29", x.sign(28, 29), 2);
        for (int a : new int[] {-1, 1000, MIN, MAX}) due("11 sign of " + a, x.sign(a, 7), BAD);
        for (int n : new int[] {0, 1, 2, 9, 37, -7, MIN, MAX}) due("11 sign by " + n, x.sign(1, n), BAD);
    }

    private static void roots() {
        SoundWells x = new SoundWells();
        int[] lowest = {2, 2, 3, 2, 2, 3, 2, 5, 2, 3};
        int[] many = {1, 2, 2, 4, 4, 8, 6, 10, 12, 8};
        for (int i = 0; i < PRIMES.length; i++) {
            due("12 lowest of " + PRIMES[i], x.root(PRIMES[i], 0), lowest[i]);
            due("12 how many of " + PRIMES[i], x.root(PRIMES[i], 1), many[i]);
            due("12 what 2", x.root(PRIMES[i], 2), BAD);
            due("12 what -1", x.root(PRIMES[i], -1), BAD);
        }
        for (int n : new int[] {0, 1, 2, 9, 37, -3, MIN, MAX}) due("12 root of " + n, x.root(n, 0), BAD);
    }

    private static void laws() {
        SoundWells x = new SoundWells();
        for (int p : PRIMES) {
            for (int q : PRIMES) {
                int want = p == q ? BAD : p % 4 == 3 && q % 4 == 3 ? 0 : 2;
                due("13 law " + p + " " + q, x.law(p, q), want);
            }
            for (int q : new int[] {0, 1, 2, 9, 37, -3, MIN, MAX}) {
                due("13 law " + p + " " + q, x.law(p, q), BAD);
                due("13 law " + q + " " + p, x.law(q, p), BAD);
            }
        }
    }

    private static void panels() {
        SoundWells x = new SoundWells();
        for (int p : new int[] {-1, 3, 4, MIN, MAX}) due("14 panel " + p, x.panel(p, 0), BAD);
        for (int what : new int[] {-1, 11, MIN, MAX}) due("14 what " + what, x.panel(0, what), BAD);
        SoundWells y = laid("q5,2,0,5;r5,2,4,4;l5,9,0,3;l3,9,0,3;");
        // 0 2 3 3 2; 2 4 3 1 from the place behind the last; 0 9 0; 0 9 0, where 9 leaves 0 by 3
        duePanel("14", y, 0, 0, 5, 2, 0, 5, 5, 3, 10, 3, 0, 0);
        duePanel("14", y, 1, 1, 5, 2, 4, 4, 4, 4, 10, 4, 0, 1);
        duePanel("14", y, 2, 2, 5, 9, 0, 3, 5, 9, 9, 2, 1, 3);
        duePanel("14", y, 3, 2, 3, 9, 0, 3, 3, 9, 9, 2, 1, 3);
    }

    private static void panelMeasures() {
        SoundWells x = laid("q7,1,0,1;q7,1,0,7;r3,2,0,2;");
        due("14 one well of 0", x.panel(0, 6), 0);
        due("14 one well of 0 is mirrored", x.panel(0, 9), 1);
        due("14 one unlike", x.panel(0, 8), 1);
        due("14 the first is the deepest", laid("r5,2,1,4;").panel(0, 6), 4);
        due("14 not mirrored from 0", x.panel(1, 9), 0);
        x.set(1, 1, 4);
        // 2 4 1 0 1 4 2
        due("14 mirrored around 0", x.panel(1, 9), 1);
        x.set(1, 2, 6);
        due("14 not mirrored any more", x.panel(1, 9), 0);
        x.set(1, 1, 1);
        // 1 4 2 2 4 1
        due("14 mirrored, even many", x.panel(1, 9), 1);
        due("14 greatest", x.panel(1, 6), 4);
        due("14 together", x.panel(1, 7), 14);
        due("14 unlike", x.panel(1, 8), 3);
        // 2 1: shift 1 gives 2 and 1
        due("14 even of powers of 3", x.panel(2, 10), 1);
        due("14 period of powers of 3", x.panel(2, 5), 2);
    }

    private static void wells() {
        SoundWells x = laid("q5,2,3,12;r7,3,6,8;l7,5,2,9;l3,9,1,4;");
        dueWells("15", x, 0, 3, 2, 0, 2, 3, 3, 2, 0, 2, 3, 3, 2);
        dueWells("15", x, 1, 3, 2, 6, 4, 5, 1, 3, 2);
        dueWells("15", x, 2, 5, 0, 5, 0, 0, 0, 5, 5, 0);
        dueWells("15", x, 3, 9, 0, 0, 9);
        for (int i : new int[] {-1, 12, 40, MIN, MAX}) due("15 well " + i, x.well(0, i), BAD);
        for (int p : new int[] {-1, 4, MIN, MAX}) due("15 panel " + p, x.well(p, 0), BAD);
    }

    private static void counts() {
        SoundWells x = laid("q5,2,3,12;r7,3,6,8;l7,5,2,9;l3,9,1,4;");
        // 0 2 3 3 2: every shift but 0 gives each difference once
        for (int k = 0; k < 5; k++) {
            for (int d = 0; d < 5; d++) due("16 squares " + k + " " + d, x.counts(0, k, d), k > 0 ? 1 : d == 0 ? 5 : 0);
        }
        for (int k = 0; k < 6; k++) {
            for (int d = 0; d < 7; d++) {
                due("16 powers " + k + " " + d, x.counts(1, k, d), k == 0 ? (d == 0 ? 6 : 0) : d == 0 ? 0 : 1);
            }
        }
        // 0 5 5 0 5 0 0 shifted by 1: 5 0 2 5 2 0 0
        int[] signs = {3, 0, 2, 0, 0, 2, 0};
        for (int d = 0; d < 7; d++) due("16 signs 1 " + d, x.counts(2, 1, d), signs[d]);
        due("16 9 leaves 0 by 3", x.counts(3, 1, 0), 3);
        due("16 none is left", x.counts(3, 1, 1), 0);
        int[][] bad = {{-1, 1, 1}, {4, 1, 1}, {0, -1, 1}, {0, 5, 1}, {0, 1, -1}, {0, 1, 5}, {1, 6, 0}, {1, 0, 7}, {0, MAX, 0}, {0, 0, MIN}};
        for (int[] c : bad) due("16 counts " + c[0] + " " + c[1] + " " + c[2], x.counts(c[0], c[1], c[2]), BAD);
    }

    private static void planes() {
        SoundWells x = laid("q5,2,3,1;r5,2,4,4;l5,9,1,1;");
        int[][] rows = {{0, 2, 3, 3, 2}, {2, 4, 3, 1, 2}, {0, 9, 0, 0, 9}};
        for (int p = 0; p < 3; p++) {
            int[] many = new int[5];
            for (int i = 0; i < 25; i++) {
                int depth = (rows[p][i / 5] + rows[p][i % 5]) % 5;
                many[depth]++;
                due("17 plane " + p + " " + i, x.plane(p, i / 5, i % 5), depth);
            }
            for (int depth = 0; depth < 5; depth++) due("18 planes " + p + " " + depth, x.planes(p, depth), many[depth]);
        }
        int[][] bad = {{-1, 0, 0}, {3, 0, 0}, {0, -1, 0}, {0, 5, 0}, {0, 0, -1}, {0, 0, 5}, {0, MAX, 0}, {0, 0, MIN}};
        for (int[] c : bad) due("17 plane " + c[0] + " " + c[1] + " " + c[2], x.plane(c[0], c[1], c[2]), BAD);
        int[][] none = {{-1, 0}, {3, 0}, {0, -1}, {0, 5}, {0, MIN}, {0, MAX}, {2, 9}};
        for (int[] c : none) due("18 planes " + c[0] + " " + c[1], x.planes(c[0], c[1]), BAD);
    }

    private static void dueCut(String name, SoundWells x, int... want) {
        for (int what = 0; what < want.length; what++) due("19 " + name + " cut " + what, x.cut(what), want[what]);
    }

    private static void cutting() {
        SoundWells x = laid("q3,1,1,2;u10;b20,0;");
        dueCut("two fit without a cut", x, 1, 2, 0, 1, 0);
        x.tell(2, 1);
        dueCut("the cut is too much", x, 2, 2, 0, 1, 20);
        x.tell(1, 21);
        dueCut("room for the cut", x, 1, 2, 0, 1, 1);
        x.set(0, 0, 2);
        dueCut("as long as can be, two", x, 2, 2, 0, 2, 2);
        x.tell(0, 11);
        dueCut("lost", x, 0, 0, 2, 0, 0);
        x.tell(1, 22);
        dueCut("just not lost", x, 2, 2, 0, 2, 0);
        dueCut("no blocks", laid("q3,1,0,1;"), 0, 0, 0, 0, 0);
        dueCut("no panels", laid(""), 0, 0, 0, 0, 0);
        dueCut("need is rounded up", laid("q7,3,1,1;q7,6,1,1;q7,6,1,1;q7,6,1,1;u1;b20,0;"), 2, 4, 0, 2, 19);
        // 3 blocks of 6 need 2 cuts: 18 and 2 by 1
        dueCut("a cut between each two", laid("q7,6,1,1;q7,6,1,1;q7,6,1,1;u1;b20,1;"), 1, 3, 0, 1, 2);
        dueCut("too long by one", laid("q7,6,1,1;q7,6,1,1;q7,6,1,1;u1;b20,2;"), 2, 3, 0, 1, 22);
        // 16 14 8 7 by 2: 32 and 28 are lost, 16 and 14 need a board each
        dueCut("some are lost", laid("r17,3,7,4;u2;b21,0;"), 2, 2, 2, 2, 12);
        for (int what : new int[] {-1, 5, MIN, MAX}) due("19 cut " + what, x.cut(what), BAD);
    }

    private static void dueBoard(String name, SoundWells x, int b, int... want) {
        for (int what = 0; what < want.length; what++) due("20 " + name + " board " + b + " " + what, x.board(b, what), want[what]);
    }

    private static void boards() {
        // 1 4 2 2 4 1 by 5: 20 20 10 10 5 5; boards of 31 and cuts of 1: 20 10 | 20 10 | 5 5
        SoundWells x = laid("q7,1,1,6;u5;b31,1;");
        dueBoard("first fit", x, 0, 2, 1, 20);
        dueBoard("first fit", x, 1, 2, 1, 20);
        dueBoard("first fit", x, 2, 2, 21, 5);
        due("20 none behind", x.board(3, 0), BAD);
        x.tell(1, 36);
        // 20 10 and 5 with 2 cuts are 37
        dueBoard("no room for the second cut", x, 0, 2, 6, 20);
        x.tell(1, 37);
        dueBoard("room for the second cut", x, 0, 3, 2, 20);
        dueBoard("room for the second cut", x, 1, 3, 2, 20);
        due("20 none behind", x.board(2, 0), BAD);
        for (int b : new int[] {-1, 2, 160, MIN, MAX}) due("20 board " + b, x.board(b, 0), BAD);
        for (int what : new int[] {-1, 3, MIN, MAX}) due("20 what " + what, x.board(0, what), BAD);
        due("20 none without blocks", laid("q3,1,0,1;").board(0, 0), BAD);
        SoundWells most = laid("q3,1,1,40;q3,1,1,40;q3,2,1,40;q3,2,1,40;u20;b40,5;");
        // of 40 wells 27 have a block: 54 of 40 and 54 of 20, each on a board of its own
        due("20 many boards", most.cut(0), 108);
        dueBoard("a long one", most, 53, 1, 0, 40);
        dueBoard("a short one", most, 107, 1, 20, 20);
    }

    private static void wheres() {
        SoundWells x = laid("q7,1,0,7;q7,1,1,6;u5;b31,1;");
        // 20s of both panels: 0.2 0.5 1.1 1.4 on 0 to 3; then 10s 0.3 0.4 1.2 1.3 on 0 to 3; 5s 0.1 0.6 1.0 1.5 on 4
        int[] first = {NONE, 4, 0, 0, 1, 1, 4};
        int[] second = {4, 2, 2, 3, 3, 4};
        for (int i = 0; i < first.length; i++) due("21 where 0 " + i, x.where(0, i), first[i]);
        for (int i = 0; i < second.length; i++) due("21 where 1 " + i, x.where(1, i), second[i]);
        x.tell(0, 10);
        due("21 the last short one", x.where(1, 5), 3);
        due("21 lost", x.where(0, 2), NONE);
        due("21 not lost", x.where(0, 3), 0);
        due("21 behind lost ones", x.where(1, 2), 2);
        due("21 shorter beside longer", x.where(0, 1), 0);
        // 2 4 3 1 by 10 of 40: the second is as long as a board, the third comes next with the fourth, then the first
        SoundWells y = laid("r5,2,0,4;u10;b40,0;");
        int[] third = {2, 0, 1, 1};
        for (int i = 0; i < third.length; i++) due("21 just not lost, where " + i, y.where(0, i), third[i]);
        SoundWells z = laid("r5,2,1,4;u10;b40,0;");
        int[] fourth = {0, 1, 1, 2};
        for (int i = 0; i < fourth.length; i++) due("21 the first well, where " + i, z.where(0, i), fourth[i]);
        z.set(0, 2, 3);
        due("21 a well that is no more does not count", z.where(0, 2), 1);
        int[][] bad = {{-1, 0}, {2, 0}, {0, -1}, {0, 7}, {1, 6}, {MIN, 0}, {MAX, 0}, {0, MIN}, {0, MAX}};
        for (int[] c : bad) due("21 where " + c[0] + " " + c[1], x.where(c[0], c[1]), BAD);
    }

    private static void bests() {
        // 0 1 4 2 2 4 1, one well: offset 0 needs no board at all
        SoundWells x = laid("q7,1,3,1;");
        due("22 none is best", x.best(0, 0), 0);
        due("22 no boards", x.best(0, 1), 0);
        due("22 the offset stays", x.panel(0, 3), 3);
        due("22 no change", x.count(4), 0);
        // two wells 01 14 42 22 24 41 10 by 10 of 35: 40 is lost; 01 and 10 need 10, 22 needs 40
        SoundWells y = laid("q7,1,1,2;u10;b35,0;");
        due("22 fewest lost, most left", y.best(0, 0), 0);
        // r5,2: 2 4 3 1 by 10 of 35, two wells: 24 and 43 lose one; 31 loses none, two boards; 12 loses none, one board
        SoundWells z = laid("r5,2,0,2;u10;b35,0;");
        due("22 fewest lost, then fewest boards", z.best(0, 0), 3);
        due("22 boards then", z.best(0, 1), 1);
        due("22 but now", z.cut(2), 1);
        // with boards of 40 none is lost: 24 two boards, 43 two, 31 one with nothing left, 12 one with 10 left
        z.tell(1, 40);
        due("22 most is left of the last board", z.best(0, 0), 3);
        // powers of 3 by 3: 2 1 and 1 2 alike
        due("22 of like ones the lowest", laid("r3,2,1,2;").best(0, 0), 0);
        // 40 80 60 20: a lost one needs no board, yet the one of 20 is better
        SoundWells w = laid("r5,2,1,1;u20;b20,0;");
        due("22 lost before boards", w.best(0, 0), 3);
        due("22 one board then", w.best(0, 1), 1);
        int[][] bad = {{-1, 0}, {1, 0}, {0, -1}, {0, 2}, {MIN, 0}, {MAX, 0}, {0, MIN}, {0, MAX}};
        for (int[] c : bad) due("22 best " + c[0] + " " + c[1], w.best(c[0], c[1]), BAD);
    }

    private static void counting() {
        SoundWells x = laid("q7,1,0,1;q7,1,0,40;u8;b99,4;");
        x.set(0, 2, 2);
        int[] want = {2, 8, 99, 4, 1, 28, 42};
        for (int what = 0; what < want.length; what++) due("23 count " + what, x.count(what), want[what]);
        for (int what : new int[] {-1, 7, MIN, MAX}) due("23 count " + what, x.count(what), BAD);
    }
}
