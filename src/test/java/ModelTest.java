import java.util.ArrayDeque;
import java.util.ArrayList;
import java.util.Comparator;
import java.util.HashSet;
import java.util.List;
import java.util.Set;
import java.util.regex.Matcher;
import java.util.regex.Pattern;

/**
 * Long runs of mixed calls, each answered also by a model that follows the document's words in another way:
 * signs by Euler's power, roots by their order, texts by a pattern, boards as lists of blocks.
 */
public final class ModelTest {
    private static final int BAD = -1, NO = -2, FULL = -3, NONE = -4;
    private static final int RUNS = 250, CALLS = 512;
    private static final int[] PRIMES = {3, 5, 7, 11, 13, 17, 19, 23, 29, 31};
    private static final int[] ODD = {-1, -2, 9, 33, 41, 127, 400, 1000, Integer.MIN_VALUE, Integer.MAX_VALUE};

    public static void main(String[] args) {
        int wrong = 0;
        long calls = 0;
        for (int run = 1; run <= RUNS && wrong == 0; run++) {
            Run r = new Run(run);
            wrong += r.play();
            calls += r.played;
        }
        System.out.println(wrong == 0 ? calls + " calls answered as the model does" : "the model answers otherwise");
        if (wrong != 0) System.exit(1);
    }

    private record Panel(int kind, int n, int f, int o, int w) {
        int period() { return kind == 1 ? n - 1 : n; }

        int depth(int place) {
            switch (kind) {
                case 0: return (int) ((long) f * place * place % n);
                case 1: return power(f, place + 1, n);
                default: return euler(place, n) == 1 ? f : 0;
            }
        }

        int well(int i) { return depth(i + o); }
    }

    private record Plan(List<Panel> panels, int unit, int board, int cut) { }

    private static int power(int base, int exponent, int n) {
        long result = 1;
        for (int e = 0; e < exponent; e++) result = result * base % n;
        return (int) result;
    }

    private static int euler(int a, int n) {
        int result = power(a % n, (n - 1) / 2, n);
        return result == n - 1 ? -1 : result;
    }

    private static boolean prime(int n) {
        if (n < 3 || n > 31) return false;
        for (int d = 2; d < n; d++) if (n % d == 0) return false;
        return true;
    }

    private static boolean rootOf(int f, int n) {
        if (f < 2 || f > n - 1) return false;
        for (int e = 1; e < n - 1; e++) if (power(f, e, n) == 1) return false;
        return true;
    }

    private static boolean factor(int kind, int n, int f) {
        return kind == 0 ? f > 0 && f < n : kind == 1 ? rootOf(f, n) : f > 0 && f < 10;
    }

    private static final class Block {
        final int panel, well, length;
        int board = NONE;

        Block(int panel, int well, int length) {
            this.panel = panel;
            this.well = well;
            this.length = length;
        }
    }

    private static final class Cutting {
        final List<Block> all = new ArrayList<>();
        final List<List<Block>> boards = new ArrayList<>();
        int lost = 0;

        Cutting(Plan plan) {
            for (int p = 0; p < plan.panels.size(); p++) {
                Panel panel = plan.panels.get(p);
                for (int i = 0; i < panel.w; i++) {
                    if (panel.well(i) > 0) all.add(new Block(p, i, panel.well(i) * plan.unit));
                }
            }
            all.sort(Comparator.comparingInt((Block b) -> -b.length).thenComparingInt(b -> b.panel).thenComparingInt(b -> b.well));
            for (Block block : all) {
                if (block.length > plan.board) lost++;
                else put(plan, block);
            }
        }

        private void put(Plan plan, Block block) {
            for (List<Block> board : boards) {
                if (sum(board) + block.length + board.size() * plan.cut <= plan.board) {
                    board.add(block);
                    block.board = boards.indexOf(board);
                    return;
                }
            }
            block.board = boards.size();
            List<Block> fresh = new ArrayList<>();
            boards.add(fresh);
            fresh.add(block);
        }

        static int sum(List<Block> board) {
            int sum = 0;
            for (Block b : board) sum += b.length;
            return sum;
        }

        int used() {
            int used = 0;
            for (List<Block> board : boards) used += sum(board);
            return used;
        }
    }

    private static final class Model {
        private static final Pattern ITEM = Pattern.compile(
            "([qrl])(\\d{1,3}),(\\d{1,3}),(\\d{1,3}),(\\d{1,3});|u(\\d{1,3});|b(\\d{1,3}),(\\d{1,3});");
        final StringBuilder text = new StringBuilder();
        final ArrayDeque<Plan> past = new ArrayDeque<>();
        Plan plan;
        private Plan read;

        Model() {
            text.append("q7,1,0,14;r11,2,3,10;l13,4,0,13;u3;b40,1;");
            lay();
            text.setLength(0);
        }

        int write(int letter) {
            if (letter < 32 || letter > 126) return BAD;
            if (text.length() == 200) return FULL;
            return text.append((char) letter).length();
        }

        int wipe() {
            int was = text.length();
            text.setLength(0);
            return was;
        }

        int fault() {
            List<Panel> panels = new ArrayList<>();
            int unit = 3, board = 100, cut = 1, place = 0;
            Matcher m = ITEM.matcher(text);
            while (place < text.length()) {
                m.region(place, text.length());
                if (!m.lookingAt()) return place;
                if (m.group(1) != null) {
                    Panel p = new Panel("qrl".indexOf(m.group(1)), number(m, 2), number(m, 3), number(m, 4), number(m, 5));
                    boolean fits = prime(p.n) && factor(p.kind, p.n, p.f) && p.o < p.n && p.w >= 1 && p.w <= 40;
                    if (!fits || panels.size() == 4) return place;
                    panels.add(p);
                } else if (m.group(6) != null) {
                    unit = number(m, 6);
                    if (unit < 1 || unit > 20) return place;
                } else {
                    board = number(m, 7);
                    cut = number(m, 8);
                    if (board < 20 || board > 400 || cut > 5) return place;
                }
                place = m.end();
            }
            read = new Plan(panels, unit, board, cut);
            return NONE;
        }

        private static int number(Matcher m, int group) { return Integer.parseInt(m.group(group)); }

        int lay() {
            if (fault() != NONE) return NO;
            plan = read;
            past.clear();
            return plan.panels.size();
        }

        private void change(Plan next) {
            past.addLast(plan);
            if (past.size() > 6) past.removeFirst();
            plan = next;
        }

        private boolean has(int p) { return p >= 0 && p < plan.panels.size(); }

        int set(int p, int what, int v) {
            if (!has(p)) return BAD;
            Panel a = plan.panels.get(p);
            Panel b;
            int was;
            if (what == 0 && factor(a.kind, a.n, v)) { was = a.f; b = new Panel(a.kind, a.n, v, a.o, a.w); }
            else if (what == 1 && v >= 0 && v < a.n) { was = a.o; b = new Panel(a.kind, a.n, a.f, v, a.w); }
            else if (what == 2 && v > 0 && v < 41) { was = a.w; b = new Panel(a.kind, a.n, a.f, a.o, v); }
            else return BAD;
            if (was == v) return NO;
            change(replaced(p, b));
            return was;
        }

        private Plan replaced(int p, Panel b) {
            List<Panel> panels = new ArrayList<>(plan.panels);
            panels.set(p, b);
            return new Plan(panels, plan.unit, plan.board, plan.cut);
        }

        int tell(int what, int v) {
            if (what == 0 && v >= 1 && v <= 20) return v == plan.unit ? NO : told(plan.unit, new Plan(plan.panels, v, plan.board, plan.cut));
            if (what == 1 && v >= 20 && v <= 400) return v == plan.board ? NO : told(plan.board, new Plan(plan.panels, plan.unit, v, plan.cut));
            if (what == 2 && v >= 0 && v <= 5) return v == plan.cut ? NO : told(plan.cut, new Plan(plan.panels, plan.unit, plan.board, v));
            return BAD;
        }

        private int told(int was, Plan next) {
            change(next);
            return was;
        }

        int take(int p) {
            if (!has(p)) return BAD;
            List<Panel> panels = new ArrayList<>(plan.panels);
            panels.remove(p);
            change(new Plan(panels, plan.unit, plan.board, plan.cut));
            return panels.size();
        }

        int undo() {
            if (past.isEmpty()) return NO;
            plan = past.removeLast();
            return past.size();
        }

        int squares(int n) {
            if (!prime(n)) return BAD;
            int bits = 0;
            for (int a = 1; a < n; a++) if (euler(a, n) == 1) bits += 1 << a;
            return bits;
        }

        int sign(int a, int n) { return a < 0 || a > 999 || !prime(n) ? BAD : euler(a, n) + 1; }

        int root(int n, int what) {
            if (!prime(n) || what != 0 && what != 1) return BAD;
            List<Integer> roots = new ArrayList<>();
            for (int f = 2; f < n; f++) if (rootOf(f, n)) roots.add(f);
            return what == 0 ? roots.get(0) : roots.size();
        }

        int law(int p, int q) {
            if (!prime(p) || !prime(q) || p == q) return BAD;
            return p % 4 == 3 && q % 4 == 3 ? 0 : 2;
        }

        int panel(int p, int what) {
            if (!has(p)) return BAD;
            Panel a = plan.panels.get(p);
            int greatest = 0, together = 0, mirrored = 1;
            Set<Integer> unlike = new HashSet<>();
            for (int i = 0; i < a.w; i++) {
                greatest = Math.max(greatest, a.well(i));
                together += a.well(i);
                unlike.add(a.well(i));
                if (a.well(i) != a.well(a.w - 1 - i)) mirrored = 0;
            }
            int[] told = {a.kind, a.n, a.f, a.o, a.w, a.period(), greatest, together, unlike.size(), mirrored};
            if (what == 10) return even(p, a);
            return what < 0 || what > 10 ? BAD : told[what];
        }

        private int even(int p, Panel a) {
            int most = Integer.MIN_VALUE, least = Integer.MAX_VALUE;
            for (int k = 1; k < a.period(); k++) {
                for (int d = 0; d < a.n; d++) {
                    most = Math.max(most, counts(p, k, d));
                    least = Math.min(least, counts(p, k, d));
                }
            }
            return most - least;
        }

        int well(int p, int i) {
            if (!has(p) || i < 0 || i >= plan.panels.get(p).w) return BAD;
            return plan.panels.get(p).well(i);
        }

        int counts(int p, int k, int d) {
            if (!has(p)) return BAD;
            Panel a = plan.panels.get(p);
            if (k < 0 || k >= a.period() || d < 0 || d >= a.n) return BAD;
            int found = 0;
            for (int n = 0; n < a.period(); n++) if (Math.floorMod(a.depth(n + k) - a.depth(n), a.n) == d) found++;
            return found;
        }

        int plane(int p, int x, int y) {
            if (!has(p)) return BAD;
            Panel a = plan.panels.get(p);
            if (x < 0 || x >= a.n || y < 0 || y >= a.n) return BAD;
            return (a.depth(x) + a.depth(y)) % a.n;
        }

        int planes(int p, int depth) {
            if (!has(p) || depth < 0 || depth >= plan.panels.get(p).n) return BAD;
            int n = plan.panels.get(p).n, found = 0;
            for (int x = 0; x < n; x++) for (int y = 0; y < n; y++) if (plane(p, x, y) == depth) found++;
            return found;
        }

        int cut(int what) {
            Cutting c = new Cutting(plan);
            int need = (int) Math.ceil(c.used() / (double) plan.board);
            int[] told = {c.boards.size(), c.all.size() - c.lost, c.lost, need, c.boards.size() * plan.board - c.used()};
            return what < 0 || what >= told.length ? BAD : told[what];
        }

        int board(int b, int what) {
            Cutting c = new Cutting(plan);
            if (b < 0 || b >= c.boards.size() || what < 0 || what > 2) return BAD;
            List<Block> board = c.boards.get(b);
            if (what == 0) return board.size();
            if (what == 1) return plan.board - Cutting.sum(board);
            int longest = 0;
            for (Block block : board) longest = Math.max(longest, block.length);
            return longest;
        }

        int where(int p, int i) {
            if (well(p, i) == BAD) return BAD;
            for (Block block : new Cutting(plan).all) if (block.panel == p && block.well == i) return block.board;
            return NONE;
        }

        int best(int p, int what) {
            if (!has(p) || what != 0 && what != 1) return BAD;
            Panel a = plan.panels.get(p);
            List<int[]> tries = new ArrayList<>();
            for (int o = 0; o < a.n; o++) {
                Cutting c = new Cutting(replaced(p, new Panel(a.kind, a.n, a.f, o, a.w)));
                int boards = c.boards.size();
                int left = boards == 0 ? 0 : plan.board - Cutting.sum(c.boards.get(boards - 1));
                tries.add(new int[] {c.lost, boards, -left, o});
            }
            tries.sort(java.util.Arrays::compare);
            return what == 0 ? tries.get(0)[3] : tries.get(0)[1];
        }

        int count(int what) {
            int wells = 0;
            for (Panel a : plan.panels) wells += a.w;
            int[] told = {plan.panels.size(), plan.unit, plan.board, plan.cut, past.size(), text.length(), wells};
            return what < 0 || what >= told.length ? BAD : told[what];
        }
    }

    /** One object and one model that are asked alike. */
    private static final class Run {
        private final int number;
        private final SoundWells x = new SoundWells();
        private final Model m = new Model();
        private final StringBuilder told = new StringBuilder();
        private long seed;
        int played = 0, wrong = 0;

        Run(int number) {
            this.number = number;
            this.seed = number * 7919L + 17;
        }

        private int next(int below) {
            seed = seed * 6364136223846793005L + 1442695040888963407L;
            return (int) ((seed >>> 33) % below);
        }

        private int from(int least, int most) { return least + next(most - least + 1); }

        private int from(int least, int most, int odds) {
            if (next(odds) > 0) return from(least, most);
            int kind = next(3);
            return kind == 0 ? least - 1 : kind == 1 ? most + 1 : ODD[next(ODD.length)];
        }

        private int aPrime() { return next(20) == 0 ? from(-1, 40, 5) : PRIMES[next(PRIMES.length)]; }

        private int aPanel() { return from(0, Math.max(0, m.plan.panels.size() - 1), 20); }

        private int primeOf(int p) { return m.has(p) ? m.plan.panels.get(p).n : 7; }

        private void due(String call, int got, int want) {
            played++;
            told.append(call).append(" = ").append(got).append('\n');
            if (got == want || wrong > 0) return;
            wrong++;
            String whole = told.toString();
            System.out.println("run " + number + ", call " + played + ": " + call + " answered " + got + ", due is " + want);
            System.out.println(whole.substring(Math.max(0, whole.length() - 2000)));
        }

        int play() {
            while (played < CALLS - 60 && wrong == 0) {
                int turn = next(100);
                if (turn < 4) textTurn();
                else if (turn < 30) changeTurn();
                else if (turn < 40) numberTurn();
                else if (turn < 70) panelTurn();
                else boardTurn();
            }
            return wrong;
        }

        private void textTurn() {
            if (next(4) > 0) due("wipe()", x.wipe(), m.wipe());
            StringBuilder text = new StringBuilder();
            int items = from(0, 6);
            for (int i = 0; i < items && text.length() < 45; i++) text.append(item());
            if (text.length() > 0 && next(8) == 0) {
                int at = next(text.length());
                if (next(2) == 0) text.deleteCharAt(at);
                else text.setCharAt(at, (char) from(32, 126));
            }
            for (int i = 0; i < text.length(); i++) due("write(" + text.charAt(i) + ")", x.write(text.charAt(i)), m.write(text.charAt(i)));
            if (next(5) == 0) {
                int letter = from(32, 126, 2);
                due("write(" + letter + ")", x.write(letter), m.write(letter));
            }
            due("fault()", x.fault(), m.fault());
            if (next(3) > 0) due("lay()", x.lay(), m.lay());
        }

        private String item() {
            int kind = next(7);
            if (kind == 0) return "u" + Math.abs(from(1, 20, 25) % 1000) + ";";
            if (kind == 1) return "b" + from(20, next(2) == 0 ? 60 : 400) + "," + Math.abs(from(0, 5, 25) % 1000) + ";";
            int n = next(25) == 0 ? from(0, 40) : PRIMES[next(PRIMES.length)], what = next(3);
            int f = what == 0 ? from(1, Math.max(1, n - 1)) : what == 2 ? from(1, 9) : aRoot(n);
            int o = next(25) == 0 ? n : from(0, Math.max(0, n - 1));
            int w = next(25) == 0 ? 41 : from(1, 40);
            return "qrl".charAt(what) + (next(9) == 0 && n < 10 ? "0" : "") + n + "," + f + "," + o + "," + w + ";";
        }

        private int aRoot(int n) {
            int f = from(1, Math.max(1, n - 1));
            for (int i = 0; i < n && prime(n) && !rootOf(f, n); i++) f = f % (n - 1) + 1;
            return next(25) == 0 ? from(0, 31) : f;
        }

        private void changeTurn() {
            int p = aPanel(), what = from(0, 2, 20), n = primeOf(p), v;
            switch (next(8)) {
                case 0: case 1: case 2:
                    if (what == 0) v = next(3) == 0 ? from(1, 9, 10) : next(2) == 0 ? aRoot(n) : from(1, n - 1, 10);
                    else v = what == 1 ? from(0, n - 1, 10) : from(1, 40, 10);
                    due("set(" + p + ", " + what + ", " + v + ")", x.set(p, what, v), m.set(p, what, v));
                    break;
                case 3: case 4: case 5:
                    v = what == 0 ? from(1, 20, 10) : what == 1 ? from(20, next(2) == 0 ? 50 : 400, 10) : from(0, 5, 10);
                    due("tell(" + what + ", " + v + ")", x.tell(what, v), m.tell(what, v));
                    break;
                case 6:
                    if (next(5) == 0) due("take(" + p + ")", x.take(p), m.take(p));
                    break;
                default:
                    due("undo()", x.undo(), m.undo());
            }
        }

        private void numberTurn() {
            int a = from(0, 999, 10), n = aPrime(), q = aPrime(), what = from(0, 1, 8);
            switch (next(4)) {
                case 0: due("squares(" + n + ")", x.squares(n), m.squares(n)); break;
                case 1: due("sign(" + a + ", " + n + ")", x.sign(a, n), m.sign(a, n)); break;
                case 2: due("root(" + n + ", " + what + ")", x.root(n, what), m.root(n, what)); break;
                default: due("law(" + n + ", " + q + ")", x.law(n, q), m.law(n, q));
            }
        }

        private void panelTurn() {
            int p = aPanel(), n = primeOf(p), a = from(0, n - 1, 20), b = from(0, n - 1, 20);
            int what = from(0, 10, 20), i = from(0, m.has(p) ? m.plan.panels.get(p).w - 1 : 3, 20);
            switch (next(5)) {
                case 0: due("panel(" + p + ", " + what + ")", x.panel(p, what), m.panel(p, what)); break;
                case 1: due("well(" + p + ", " + i + ")", x.well(p, i), m.well(p, i)); break;
                case 2: due("counts(" + p + ", " + a + ", " + b + ")", x.counts(p, a, b), m.counts(p, a, b)); break;
                case 3: due("plane(" + p + ", " + a + ", " + b + ")", x.plane(p, a, b), m.plane(p, a, b)); break;
                default: due("planes(" + p + ", " + a + ")", x.planes(p, a), m.planes(p, a));
            }
        }

        private void boardTurn() {
            int p = aPanel(), i = from(0, m.has(p) ? m.plan.panels.get(p).w - 1 : 3, 20);
            int b = from(0, Math.max(0, m.cut(0) - 1), 10), what = from(0, 2, 10);
            switch (next(12)) {
                case 0: case 1: what = from(0, 4, 10); due("cut(" + what + ")", x.cut(what), m.cut(what)); break;
                case 2: case 3: case 4: due("board(" + b + ", " + what + ")", x.board(b, what), m.board(b, what)); break;
                case 5: case 6: case 7: case 8: due("where(" + p + ", " + i + ")", x.where(p, i), m.where(p, i)); break;
                case 9: case 10: what = from(0, 1, 10); due("best(" + p + ", " + what + ")", x.best(p, what), m.best(p, what)); break;
                default: what = from(0, 6, 10); due("count(" + what + ")", x.count(what), m.count(what));
            }
        }
    }
}
