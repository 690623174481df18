/** Promises 10 to 13, the calls "numbers": each sentence that names an edge has a test of its own. */
public final class EdgesNumbersTest {
    private static final int BAD = Edges.BAD;
    private static final int MIN = Edges.MIN, MAX = Edges.MAX;
    private static final int[] NO_PRIMES = {MIN, -31, -7, -3, -1, 0, 1, 2, 4, 6, 9, 15, 21, 25, 27, 30, 32, 33, 35, 37, 41, 67, 259, 263, MAX};

    public static void main(String[] args) {
        squares();
        sign();
        root();
        law();
        Edges.end();
    }

    private static int at(int prime) {
        for (int i = 0; i < Edges.PRIMES.length; i++) if (Edges.PRIMES[i] == prime) return i;
        return -1;
    }

    private static void squares() {
        Edges.edge("10: SQUARES of a PRIME, as bits (bit 1 the number 1)", () -> {
            SoundWells x = new SoundWells();
            for (int i = 0; i < Edges.PRIMES.length; i++) {
                int want = 0;
                for (int square : Edges.SQUARES[i]) want |= 1 << square;
                Edges.due("squares " + Edges.PRIMES[i], x.squares(Edges.PRIMES[i]), want);
            }
        });
        Edges.edge("10: a SQUARE is a number 1 to N - 1", () -> {
            SoundWells x = new SoundWells();
            for (int n : Edges.PRIMES) {
                int bits = x.squares(n);
                Edges.due("bit 0 of " + n, bits & 1, 0);
                Edges.due("bit 1 of " + n, bits >> 1 & 1, 1);
                Edges.due("bit N - 1 of " + n, bits >> n - 1 & 1, n % 4 == 1 ? 1 : 0);
                Edges.due("bits above N - 1 of " + n, (bits & 0xffffffffL) >> n, 0);
            }
        });
        Edges.edge("10: BAD: it is none", () -> {
            SoundWells x = new SoundWells();
            for (int n : NO_PRIMES) Edges.due("squares " + n, x.squares(n), BAD);
            SoundWells y = new SoundWells();
            for (int n = -5; n <= 400; n++) {
                if (!Edges.has(Edges.PRIMES, n)) Edges.due("squares " + n, y.squares(n), BAD);
            }
        });
        Edges.edge("10: it is told without PANELS, too", () -> Edges.due("squares 3", Edges.laid("").squares(3), 2));
    }

    private static void sign() {
        Edges.edge("11: SIGN 0, if N parts a, and ONE", () -> {
            for (int n : Edges.PRIMES) {
                SoundWells x = new SoundWells();
                for (int a = 0; a <= 999; a += n) Edges.due("sign " + a + " by " + n, x.sign(a, n), 1);
            }
        });
        Edges.edge("11: SIGN 1, if what a leaves by N is a SQUARE, and ONE", () -> {
            for (int i = 0; i < Edges.PRIMES.length; i++) {
                int n = Edges.PRIMES[i];
                for (int square : Edges.SQUARES[i]) {
                    SoundWells x = new SoundWells();
                    for (int a = square; a <= 999; a += n) Edges.due("sign " + a + " by " + n, x.sign(a, n), 2);
                }
            }
        });
        Edges.edge("11: SIGN -1 else, and ONE", () -> {
            for (int i = 0; i < Edges.PRIMES.length; i++) {
                int n = Edges.PRIMES[i];
                for (int r = 1; r < n; r++) {
                    if (Edges.has(Edges.SQUARES[i], r)) continue;
                    SoundWells x = new SoundWells();
                    for (int a = r; a <= 999; a += n) Edges.due("sign " + a + " by " + n, x.sign(a, n), 0);
                }
            }
        });
        Edges.edge("11: a number (0 ..)", () -> {
            SoundWells x = new SoundWells();
            for (int n : Edges.PRIMES) {
                Edges.due("sign 0 by " + n, x.sign(0, n), 1);
                Edges.dueBad("sign by " + n, x.sign(-1, n), x.sign(-n, n), x.sign(1 - n, n), x.sign(MIN, n));
            }
        });
        Edges.edge("11: a number (.. 999)", () -> {
            SoundWells x = new SoundWells();
            for (int n : Edges.PRIMES) {
                int r = 999 % n;
                Edges.due("sign 999 by " + n, x.sign(999, n), r == 0 ? 1 : Edges.has(Edges.SQUARES[at(n)], r) ? 2 : 0);
                Edges.dueBad("sign by " + n, x.sign(1000, n), x.sign(1001, n), x.sign(MAX, n));
            }
        });
        Edges.edge("11: BAD, no PRIME", () -> {
            SoundWells x = new SoundWells();
            for (int n : NO_PRIMES) Edges.dueBad("sign by " + n, x.sign(0, n), x.sign(1, n), x.sign(999, n), x.sign(-1, n));
        });
    }

    private static void root() {
        Edges.edge("12: the lowest ROOT (what = 0)", () -> {
            SoundWells x = new SoundWells();
            for (int n : Edges.PRIMES) Edges.due("root " + n, x.root(n, 0), Edges.ROOTS[at(n)][0]);
        });
        Edges.edge("12: how many it has (1)", () -> {
            SoundWells x = new SoundWells();
            for (int n : Edges.PRIMES) Edges.due("roots of " + n, x.root(n, 1), Edges.ROOTS[at(n)].length);
        });
        Edges.edge("12: a number 2 to N - 1 (of 3: 2)", () -> {
            SoundWells x = new SoundWells();
            Edges.due("root 3", x.root(3, 0), 2);
            Edges.due("roots of 3", x.root(3, 1), 1);
        });
        Edges.edge("12: BAD, what = 0, 1", () -> {
            SoundWells x = new SoundWells();
            for (int n : Edges.PRIMES) {
                Edges.dueBad("root of " + n, x.root(n, -1), x.root(n, 2), x.root(n, 3), x.root(n, MIN), x.root(n, MAX));
            }
        });
        Edges.edge("12: BAD, no PRIME", () -> {
            SoundWells x = new SoundWells();
            for (int n : NO_PRIMES) Edges.dueBad("root of " + n, x.root(n, 0), x.root(n, 1), x.root(n, 2));
        });
    }

    private static void law() {
        Edges.edge("13: -1, if both leave 3 by 4, and ONE", () -> {
            SoundWells x = new SoundWells();
            int[] leave3 = {3, 7, 11, 19, 23, 31};
            for (int p : leave3) {
                for (int q : leave3) if (p != q) Edges.due("law " + p + " " + q, x.law(p, q), 0);
            }
        });
        Edges.edge("13: else 1, and ONE", () -> {
            SoundWells x = new SoundWells();
            for (int p : new int[] {5, 13, 17, 29}) {
                for (int q : Edges.PRIMES) {
                    if (p == q) continue;
                    Edges.due("law " + p + " " + q, x.law(p, q), 2);
                    Edges.due("law " + q + " " + p, x.law(q, p), 2);
                }
            }
        });
        Edges.edge("13: SIGN of p by q times SIGN of q by p", () -> {
            SoundWells x = new SoundWells();
            for (int p : Edges.PRIMES) {
                for (int q : Edges.PRIMES) {
                    if (p != q) Edges.due("law " + p + " " + q, x.law(p, q), (x.sign(p, q) - 1) * (x.sign(q, p) - 1) + 1);
                }
            }
        });
        Edges.edge("13: BAD (alike, too)", () -> {
            SoundWells x = new SoundWells();
            for (int p : Edges.PRIMES) Edges.due("law " + p + " " + p, x.law(p, p), BAD);
        });
        Edges.edge("13: BAD, no PRIME", () -> {
            SoundWells x = new SoundWells();
            for (int n : NO_PRIMES) Edges.dueBad("law with " + n, x.law(n, 3), x.law(3, n), x.law(n, 31), x.law(31, n), x.law(n, n));
        });
    }
}
