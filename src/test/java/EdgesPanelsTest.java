/** Promises 14 to 18, the calls "panels": each sentence that names an edge has a test of its own. */
public final class EdgesPanelsTest {
    private static final int BAD = Edges.BAD;
    private static final int MIN = Edges.MIN, MAX = Edges.MAX;
    private static final int[] POWERS_OF_3_BY_31 = {3, 9, 27, 19, 26, 16, 17, 20, 29, 25, 13, 8, 24, 10, 30, 28, 22, 4, 12, 5,
        15, 14, 11, 2, 6, 18, 23, 7, 21, 1};

    public static void main(String[] args) {
        panelNumbers();
        panelDepths();
        mirrored();
        even();
        wellRows();
        wellNumbers();
        counts();
        plane();
        planes();
        Edges.end();
    }

    /** One PANEL of each KIND. */
    private static SoundWells three(int at, int offset, int wells) {
        int n = Edges.PRIMES[at];
        String rest = "," + offset + "," + wells + ";";
        return Edges.laid("q" + n + ",1" + rest + "r" + n + "," + Edges.ROOTS[at][0] + rest + "l" + n + ",5" + rest);
    }

    private static void panelNumbers() {
        Edges.edge("14: BAD, a PANEL such as there are", () -> {
            SoundWells x = Edges.laid("q7,1,0,1;".repeat(4));
            Edges.due("the first", x.panel(0, 1), 7);
            Edges.due("the fourth", x.panel(3, 1), 7);
            Edges.dueBad("panel(p, 1)", x.panel(-1, 1), x.panel(4, 1), x.panel(5, 1), x.panel(MIN, 1), x.panel(MAX, 1));
            x.take(1);
            Edges.dueBad("panel(3, 1) of three", x.panel(3, 1));
            SoundWells none = Edges.laid("");
            for (int what = 0; what <= 10; what++) Edges.dueBad("panel of none", none.panel(0, what));
        });
        Edges.edge("14: BAD, what = 0 to 10", () -> {
            SoundWells x = new SoundWells();
            for (int p = 0; p < 3; p++) {
                Edges.due("the first", x.panel(p, 0), p);
                Edges.due("the last", x.panel(p, 10), p == 0 ? 0 : p == 1 ? 1 : 7);
                Edges.dueBad("panel(p, what)", x.panel(p, -1), x.panel(p, 11), x.panel(p, 12), x.panel(p, MIN), x.panel(p, MAX));
            }
        });
        Edges.edge("14: PERIOD N, of POWERS N less 1", () -> {
            for (int at = 0; at < Edges.PRIMES.length; at++) {
                SoundWells x = three(at, 0, 1);
                int n = Edges.PRIMES[at];
                Edges.due("SQUARES of " + n, x.panel(0, 5), n);
                Edges.due("POWERS of " + n, x.panel(1, 5), n - 1);
                Edges.due("SIGNS of " + n, x.panel(2, 5), n);
            }
        });
    }

    private static void panelDepths() {
        Edges.edge("14: greatest depth, depths together, unlike ones are of its WELLS, not of its ROW", () -> {
            // 0 1 4 2 2 4 1
            SoundWells x = Edges.laid("q7,1,0,1;q7,1,0,2;q7,1,3,2;q7,1,6,3;");
            int[][] want = {{0, 0, 1}, {1, 1, 2}, {2, 4, 1}, {1, 2, 2}};
            for (int p = 0; p < 4; p++) {
                for (int what = 6; what <= 8; what++) Edges.due("panel(" + p + ", " + what + ")", x.panel(p, what), want[p][what - 6]);
            }
        });
        Edges.edge("14: the greatest depth of its WELLS may be the first, the last, 0, 30", () -> {
            SoundWells x = Edges.laid("r5,2,1,4;r5,2,0,2;l5,9,2,2;q31,30,30,1;");
            int[] want = {4, 4, 0, 30};
            for (int p = 0; p < 4; p++) Edges.due("panel(" + p + ", 6)", x.panel(p, 6), want[p]);
        });
        Edges.edge("14: all depths together of 40 WELLS, the ROW going on", () -> {
            // 13 times 0 1 1 and 0; 465 and the first ten powers; 15 squares, then six up to place 8
            SoundWells x = Edges.laid("q3,1,0,40;r31,3,0,40;l31,9,0,40;");
            Edges.due("SQUARES", x.panel(0, 7), 26);
            Edges.due("POWERS", x.panel(1, 7), 656);
            Edges.due("SIGNS", x.panel(2, 7), 189);
        });
        Edges.edge("14: how many unlike ones, 0 and 30 too", () -> {
            SoundWells x = Edges.laid("q31,1,0,31;q31,30,0,31;r31,3,0,40;l3,9,0,40;");
            int[] want = {16, 16, 30, 2};
            for (int p = 0; p < 4; p++) Edges.due("panel(" + p + ", 8)", x.panel(p, 8), want[p]);
            Edges.due("one of depth 0", Edges.laid("q31,1,0,1;").panel(0, 8), 1);
            Edges.due("one of depth 30", Edges.laid("q31,30,1,1;").panel(0, 8), 1);
        });
    }

    private static void mirrored() {
        Edges.edge("14: MIRRORED, one WELL", () -> {
            for (int at = 0; at < Edges.PRIMES.length; at++) {
                SoundWells x = three(at, 1, 1);
                for (int p = 0; p < 3; p++) Edges.due("of " + Edges.PRIMES[at], x.panel(p, 9), 1);
            }
        });
        Edges.edge("14: MIRRORED, two WELLS", () -> {
            Edges.due("1 1", Edges.laid("q3,1,1,2;").panel(0, 9), 1);
            Edges.due("0 1", Edges.laid("q3,1,0,2;").panel(0, 9), 0);
        });
        Edges.edge("14: MIRRORED, for all i", () -> {
            // of 0 1 1 0 1 0 0: 0 1 1 0; 0 0 0 1, like within; 0 1 0 0, like without
            Edges.due("all", Edges.laid("l7,1,0,4;").panel(0, 9), 1);
            Edges.due("within", Edges.laid("l7,1,5,4;").panel(0, 9), 0);
            Edges.due("without", Edges.laid("l7,1,3,4;").panel(0, 9), 0);
        });
        Edges.edge("14: MIRRORED, around a WELL in the middle and around none", () -> {
            // 2 4 1 0 1 4 2 and 1 4 2 2 4 1 and 2 4 1 0 1 4
            Edges.due("around place 7", Edges.laid("q7,1,4,7;").panel(0, 9), 1);
            Edges.due("around none", Edges.laid("q7,1,1,6;").panel(0, 9), 1);
            Edges.due("beside", Edges.laid("q7,1,4,6;").panel(0, 9), 0);
        });
        Edges.edge("14: MIRRORED tells of WELLS, by OFFSET and WELLS as they stand", () -> {
            SoundWells x = Edges.laid("q7,1,1,6;");
            x.set(0, 1, 0);
            Edges.due("from 0", x.panel(0, 9), 0);
            x.set(0, 2, 8);
            Edges.due("0 1 4 2 2 4 1 0", x.panel(0, 9), 1);
            x.set(0, 1, 4);
            Edges.due("2 4 1 0 1 4 2 2", x.panel(0, 9), 0);
            x.set(0, 2, 7);
            Edges.due("2 4 1 0 1 4 2", x.panel(0, 9), 1);
        });
    }

    private static void even() {
        Edges.edge("14: EVEN, shifts 1 .. (not 0)", () -> {
            for (int n : Edges.PRIMES) {
                Edges.due("1 of " + n, Edges.laid("q" + n + ",1,0,1;").panel(0, 10), 0);
                Edges.due("N - 1 of " + n, Edges.laid("q" + n + "," + (n - 1) + ",1,40;").panel(0, 10), 0);
            }
        });
        Edges.edge("14: EVEN, all d (0, too)", () -> {
            for (int at = 0; at < Edges.PRIMES.length; at++) {
                for (int root : Edges.ROOTS[at]) {
                    Edges.due("POWERS of " + root, Edges.laid("r" + Edges.PRIMES[at] + "," + root + ",0,1;").panel(0, 10), 1);
                }
            }
        });
        Edges.edge("14: EVEN, the greatest COUNT of all shifts, less the least", () -> {
            // 0 1 0 0 1: shift 1 has 0 once, shift 2 thrice; 0 5 5 0 5 0 0: 0 thrice; 0 1 0: each once
            Edges.due("l5,1", Edges.laid("l5,1,0,1;").panel(0, 10), 3);
            Edges.due("l7,5", Edges.laid("l7,5,0,1;").panel(0, 10), 3);
            Edges.due("l3,1", Edges.laid("l3,1,0,1;").panel(0, 10), 0);
        });
        Edges.edge("14: EVEN, a difference leaves d by N (a FACTOR of SIGNS that N parts)", () -> {
            for (int f : new int[] {3, 6, 9}) Edges.due("l3," + f, Edges.laid("l3," + f + ",0,1;").panel(0, 10), 3);
            Edges.due("l5,5", Edges.laid("l5,5,0,1;").panel(0, 10), 5);
            Edges.due("l7,7", Edges.laid("l7,7,0,1;").panel(0, 10), 7);
            Edges.due("l3,4 as l3,1", Edges.laid("l3,4,0,1;").panel(0, 10), 0);
        });
        Edges.edge("14: EVEN is the greatest and least of what counts tells", () -> {
            for (String text : new String[] {"q5,3,1,2;", "r7,5,2,3;", "l11,9,0,1;", "l13,4,0,1;", "r3,2,0,1;"}) {
                SoundWells x = Edges.laid(text);
                int most = 0, least = 99;
                for (int k = 1; k < x.panel(0, 5); k++) {
                    for (int d = 0; d < x.panel(0, 1); d++) {
                        most = Math.max(most, x.counts(0, k, d));
                        least = Math.min(least, x.counts(0, k, d));
                    }
                    x = Edges.laid(text);
                }
                Edges.due(text, x.panel(0, 10), most - least);
            }
        });
    }

    private static void wellRows() {
        Edges.edge("15: SQUARES, F times n times n modulo N, PERIOD N and then again", () -> {
            for (int n : Edges.PRIMES) {
                SoundWells x = Edges.laid("q" + n + "," + (n - 1) + ",0,40;");
                for (int i = 0; i < 40; i++) Edges.due("q" + n + " well " + i, x.well(0, i), (n - i * i % n) % n);
            }
        });
        Edges.edge("15: POWERS, F for n 0", () -> {
            for (int at = 0; at < Edges.PRIMES.length; at++) {
                for (int root : Edges.ROOTS[at]) {
                    Edges.due("r" + Edges.PRIMES[at], Edges.laid("r" + Edges.PRIMES[at] + "," + root + ",0,1;").well(0, 0), root);
                }
            }
        });
        Edges.edge("15: POWERS, PERIOD N less 1 and then again", () -> {
            SoundWells x = Edges.laid("r31,3,0,40;r3,2,0,5;r7,3,5,8;");
            for (int i = 0; i < 40; i++) Edges.due("r31 well " + i, x.well(0, i), POWERS_OF_3_BY_31[i % 30]);
            Edges.dueWells(x, 1, 2, 1, 2, 1, 2);
            Edges.dueWells(x, 2, 1, 3, 2, 6, 4, 5, 1, 3);
        });
        Edges.edge("15: SIGNS, F, if SIGN of n by N is 1, else 0 (N parts n, too)", () -> {
            for (int at = 0; at < Edges.PRIMES.length; at++) {
                int n = Edges.PRIMES[at];
                SoundWells x = Edges.laid("l" + n + ",9,0,40;");
                for (int i = 0; i < 40; i++) {
                    Edges.due("l" + n + " well " + i, x.well(0, i), Edges.has(Edges.SQUARES[at], i % n) ? 9 : 0);
                }
            }
        });
        Edges.edge("15: SIGNS may be deeper than N", () -> Edges.dueWells(Edges.laid("l3,9,0,4;"), 0, 0, 9, 0, 0));
        Edges.edge("15: as deep as place i and OFFSET together (OFFSET N - 1, too)", () -> {
            for (int at = 0; at < Edges.PRIMES.length; at++) {
                int n = Edges.PRIMES[at];
                SoundWells from0 = three(at, 0, 40), from1 = three(at, 1, 39), fromLast = three(at, n - 1, 40 - n + 1);
                for (int p = 0; p < 3; p++) {
                    for (int i = 0; i < 39; i++) Edges.due("OFFSET 1 of " + n, from1.well(p, i), from0.well(p, i + 1));
                    for (int i = 0; i + n - 1 < 40; i++) Edges.due("OFFSET N - 1 of " + n, fromLast.well(p, i), from0.well(p, i + n - 1));
                }
            }
            // place 30 and 39 is place 69 is place 7 (of POWERS 9)
            SoundWells x = three(9, 30, 40);
            Edges.due("q31 place 69", x.well(0, 39), 49 - 31);
            Edges.due("r31 place 69", x.well(1, 39), 25);
            Edges.due("l31 place 69", x.well(2, 39), 5);
        });
    }

    private static void wellNumbers() {
        Edges.edge("15: BAD, WELL i (0 to WELLS less 1)", () -> {
            SoundWells x = Edges.laid("q7,1,3,1;q7,1,3,7;q7,1,3,40;");
            int[] wells = {1, 7, 40};
            for (int p = 0; p < 3; p++) {
                Edges.due("the first", x.well(p, 0), 2);
                Edges.due("the last", x.well(p, wells[p] - 1), p == 0 ? 2 : p == 1 ? 4 : 0);
                Edges.dueBad("well", x.well(p, -1), x.well(p, wells[p]), x.well(p, wells[p] + 1), x.well(p, MIN), x.well(p, MAX));
            }
        });
        Edges.edge("15: BAD, WELLS such as there are then", () -> {
            SoundWells x = Edges.laid("q7,1,3,5;");
            x.set(0, 2, 4);
            Edges.dueBad("fewer", x.well(0, 4));
            x.set(0, 2, 6);
            Edges.due("more", x.well(0, 5), 1);
            x.undo();
            Edges.dueBad("fewer again", x.well(0, 4));
        });
        Edges.edge("15: BAD, a PANEL such as there are", () -> {
            SoundWells x = new SoundWells();
            Edges.dueBad("well(p, 0)", x.well(-1, 0), x.well(3, 0), x.well(4, 0), x.well(MIN, 0), x.well(MAX, 0), Edges.laid("").well(0, 0));
        });
    }

    private static void counts() {
        Edges.edge("16: a shift 0", () -> {
            SoundWells x = three(2, 0, 1);
            for (int p = 0; p < 3; p++) {
                for (int d = 0; d < 7; d++) Edges.due("counts(" + p + ", 0, " + d + ")", x.counts(p, 0, d), d > 0 ? 0 : p == 1 ? 6 : 7);
            }
        });
        Edges.edge("16: a shift (.. PERIOD less 1)", () -> {
            for (int at = 0; at < Edges.PRIMES.length; at++) {
                int n = Edges.PRIMES[at];
                SoundWells x = three(at, 0, 1);
                for (int p = 0; p < 3; p++) {
                    int period = p == 1 ? n - 1 : n;
                    Edges.due("it is told", x.counts(p, period - 1, 0) >= 0 ? 1 : 0, 1);
                    Edges.dueBad("shift of " + n, x.counts(p, period, 0), x.counts(p, period + 1, 0), x.counts(p, -1, 0), x.counts(p, MIN, 0), x.counts(p, MAX, 0));
                }
            }
        });
        Edges.edge("16: a difference d (0 to N - 1, of POWERS too)", () -> {
            for (int at = 0; at < Edges.PRIMES.length; at++) {
                int n = Edges.PRIMES[at];
                SoundWells x = three(at, 0, 1);
                Edges.due("SQUARES", x.counts(0, 1, n - 1), 1);
                Edges.due("POWERS", x.counts(1, 1, n - 1), 1);
                for (int p = 0; p < 3; p++) {
                    Edges.dueBad("d of " + n, x.counts(p, 1, n), x.counts(p, 1, n + 1), x.counts(p, 1, -1), x.counts(p, 1, MIN), x.counts(p, 1, MAX));
                }
            }
        });
        Edges.edge("16: leaves d by N (also below 0)", () -> {
            // 0 5 5 0 5 0 0 by shift 1: 5, 0, -5, 5, -5, 0, 0
            int[] want = {3, 0, 2, 0, 0, 2, 0};
            SoundWells x = Edges.laid("l7,5,0,1;");
            for (int d = 0; d < 7; d++) Edges.due("counts(0, 1, " + d + ")", x.counts(0, 1, d), want[d]);
        });
        Edges.edge("16: leaves d by N, when a FACTOR of SIGNS is N or more", () -> {
            // 0 9 0 leaves 0 alone by 3; 0 8 0: 8, -8 and 0 leave 2, 1 and 0
            SoundWells x = Edges.laid("l3,9,0,1;l3,8,0,1;");
            int[] nine = {3, 0, 0}, eight = {1, 1, 1};
            for (int d = 0; d < 3; d++) {
                Edges.due("9, d " + d, x.counts(0, 1, d), nine[d]);
                Edges.due("8, d " + d, x.counts(1, 2, d), eight[d]);
            }
        });
        Edges.edge("16: place n and k past the PERIOD is the ROW again", () -> {
            // 3 2 6 4 5 1 by shift 5: 1 - 3, 3 - 2, 2 - 6, 6 - 4, 4 - 5, 5 - 1; of 0 1 0 0 1 by 4: 1, -1, 1, 0, -1
            SoundWells x = Edges.laid("r7,3,0,1;l5,1,0,1;");
            int[] powers = {0, 1, 1, 1, 1, 1, 1}, signs = {1, 2, 0, 0, 2};
            for (int d = 0; d < 7; d++) Edges.due("powers, d " + d, x.counts(0, 5, d), powers[d]);
            for (int d = 0; d < 5; d++) Edges.due("signs, d " + d, x.counts(1, 4, d), signs[d]);
        });
        Edges.edge("16: of the places of a PERIOD, whatever OFFSET and WELLS", () -> {
            for (String end : new String[] {",0,1;", ",3,1;", ",6,40;"}) {
                SoundWells x = Edges.laid("l7,5" + end + "r7,3" + end);
                int all = 0, powers = 0;
                for (int d = 0; d < 7; d++) {
                    all += x.counts(0, 2, d);
                    powers += x.counts(1, 2, d);
                }
                Edges.due("SIGNS together", all, 7);
                Edges.due("POWERS together", powers, 6);
                Edges.due("SIGNS of 0", x.counts(0, 1, 0), 3);
            }
        });
        Edges.edge("16: BAD, a PANEL such as there are", () -> {
            SoundWells x = new SoundWells();
            Edges.dueBad("counts(p, 0, 0)", x.counts(-1, 0, 0), x.counts(3, 0, 0), x.counts(MIN, 0, 0), x.counts(MAX, 0, 0),
                Edges.laid("").counts(0, 0, 0));
        });
    }

    private static void plane() {
        Edges.edge("17: 0 to N - 1 each", () -> {
            for (int at = 0; at < Edges.PRIMES.length; at++) {
                int n = Edges.PRIMES[at];
                SoundWells x = three(at, 0, 1);
                Edges.due("(0, 0) of SQUARES", x.plane(0, 0, 0), 0);
                Edges.due("(0, N - 1) of SQUARES", x.plane(0, 0, n - 1), 1);
                Edges.due("(N - 1, 0) of SQUARES", x.plane(0, n - 1, 0), 1);
                Edges.due("(N - 1, N - 1) of SQUARES", x.plane(0, n - 1, n - 1), 2 % n);
                for (int p = 0; p < 3; p++) {
                    Edges.due("a corner", x.plane(p, n - 1, n - 1) >= 0 ? 1 : 0, 1);
                    Edges.dueBad("x of " + n, x.plane(p, -1, 0), x.plane(p, n, 0), x.plane(p, MIN, 0), x.plane(p, MAX, 0));
                    Edges.dueBad("y of " + n, x.plane(p, 0, -1), x.plane(p, 0, n), x.plane(p, 0, MIN), x.plane(p, 0, MAX));
                }
            }
        });
        Edges.edge("17: place N - 1 of POWERS is place 0 again", () -> {
            // 2 4 3 1 2
            SoundWells x = Edges.laid("r5,2,0,1;r3,2,0,1;");
            Edges.due("(0, 0)", x.plane(0, 0, 0), 4);
            Edges.due("(4, 4)", x.plane(0, 4, 4), 4);
            Edges.due("(3, 4)", x.plane(0, 3, 4), 3);
            Edges.due("(4, 2)", x.plane(0, 4, 2), 0);
            Edges.due("(2, 2) of 3", x.plane(1, 2, 2), 1);
            Edges.due("(2, 1) of 3", x.plane(1, 2, 1), 0);
        });
        Edges.edge("17: what the depths together leave by N", () -> {
            // 30 and 30; 9 and 0 by 5, 9 and 9 by 5; 9 by 3
            SoundWells x = Edges.laid("q31,30,0,1;l5,9,0,1;l3,9,0,1;q3,1,0,1;");
            Edges.due("30 and 30 by 31", x.plane(0, 1, 30), 29);
            Edges.due("9 and 0 by 5", x.plane(1, 1, 0), 4);
            Edges.due("9 and 9 by 5", x.plane(1, 4, 1), 3);
            Edges.due("9 by 3", x.plane(2, 0, 1), 0);
            Edges.due("1 and 1 by 3", x.plane(3, 1, 2), 2);
            Edges.due("2 and 1 by 3", Edges.laid("r3,2,0,1;").plane(0, 0, 1), 0);
        });
        Edges.edge("17: OFFSET does not matter", () -> {
            for (int o = 0; o < 7; o++) {
                SoundWells from0 = three(2, 0, 1), x = three(2, o, 40);
                for (int p = 0; p < 3; p++) {
                    for (int i = 0; i < 49; i++) Edges.due("of " + p + " from " + o, x.plane(p, i / 7, i % 7), from0.plane(p, i / 7, i % 7));
                }
                Edges.due("(0, 0) of POWERS", x.plane(1, 0, 0), 6);
                Edges.due("(0, 1) of SQUARES", x.plane(0, 0, 1), 1);
            }
        });
        Edges.edge("17: BAD, a PANEL such as there are", () -> {
            SoundWells x = new SoundWells();
            Edges.dueBad("plane(p, 0, 0)", x.plane(-1, 0, 0), x.plane(3, 0, 0), x.plane(MIN, 0, 0), x.plane(MAX, 0, 0),
                Edges.laid("").plane(0, 0, 0));
        });
    }

    private static void planes() {
        Edges.edge("18: so deep (0 to N - 1)", () -> {
            for (int at = 0; at < Edges.PRIMES.length; at++) {
                int n = Edges.PRIMES[at];
                SoundWells x = three(at, 0, 1);
                for (int p = 0; p < 3; p++) {
                    Edges.due("they are told", x.planes(p, 0) >= 0 && x.planes(p, n - 1) >= 0 ? 1 : 0, 1);
                    Edges.dueBad("of " + n, x.planes(p, -1), x.planes(p, n), x.planes(p, n + 1), x.planes(p, MIN), x.planes(p, MAX));
                }
            }
        });
        Edges.edge("18: N columns and N rows, also of POWERS", () -> {
            for (int at = 0; at < Edges.PRIMES.length; at++) {
                int n = Edges.PRIMES[at];
                SoundWells x = three(at, 1, 2);
                for (int p = 0; p < 3; p++) {
                    int all = 0;
                    for (int depth = 0; depth < n; depth++) all += x.planes(p, depth);
                    Edges.due("all of " + n, all, n * n);
                }
            }
        });
        Edges.edge("18: how many places are so deep (none, all)", () -> {
            // 0 1 1; 2 1 2; 0 9 0 leaves 0 by 3 alone
            SoundWells x = Edges.laid("q3,1,0,1;r3,2,0,1;l3,9,0,1;");
            int[][] want = {{1, 4, 4}, {4, 4, 1}, {9, 0, 0}};
            for (int p = 0; p < 3; p++) {
                for (int depth = 0; depth < 3; depth++) Edges.due("planes(" + p + ", " + depth + ")", x.planes(p, depth), want[p][depth]);
            }
        });
        Edges.edge("18: OFFSET does not matter", () -> {
            for (int o = 1; o < 7; o++) {
                SoundWells from0 = three(2, 0, 1), x = three(2, o, 40);
                for (int p = 0; p < 3; p++) {
                    for (int depth = 0; depth < 7; depth++) Edges.due("of " + p + " from " + o, x.planes(p, depth), from0.planes(p, depth));
                }
            }
        });
        Edges.edge("18: BAD, a PANEL such as there are", () -> {
            SoundWells x = new SoundWells();
            Edges.dueBad("planes(p, 0)", x.planes(-1, 0), x.planes(3, 0), x.planes(MIN, 0), x.planes(MAX, 0), Edges.laid("").planes(0, 0));
        });
    }
}
