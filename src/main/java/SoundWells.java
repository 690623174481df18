import java.util.Arrays;

/** Panels of wells that scatter sound, and the boards from which their blocks are cut. */
public final class SoundWells {
    public static final int BAD = -1, NO = -2, FULL = -3, NONE = -4, ONE = 1;

    private static final int[] PRIMES = {3, 5, 7, 11, 13, 17, 19, 23, 29, 31};
    private static final int GREATEST_PRIME = 31, GREATEST_DEPTH = 30;
    private static final int SQUARES = 0, POWERS = 1, SIGNS = 2;
    private static final int MOST_PANELS = 4, MOST_WELLS = 40, MOST_BLOCKS = 160;
    private static final int MOST_LETTERS = 200, MOST_UNDONE = 6, MOST_NUMBERS = 4, MOST_FIGURES = 3;
    private static final int GREATEST_SIGNED = 999, GREATEST_SIGNS_FACTOR = 9;

    private final char[] text = new char[MOST_LETTERS];
    private final Reader reader = new Reader();
    private final Past past = new Past();
    private final Saw saw = new Saw();
    private int letters;
    private Plan plan;

    public SoundWells() {
        Panel[] first = new Panel[3];
        first[0] = new Panel(SQUARES, 7, 1, 0, 14);
        first[1] = new Panel(POWERS, 11, 2, 3, 10);
        first[2] = new Panel(SIGNS, 13, 4, 0, 13);
        plan = new Plan(first, 3, 40, 1);
        letters = 0;
    }

    // ---- told

    public int write(int letter) {
        if (letter < 32 || letter > 126) return BAD;
        if (letters < 0 || letters >= text.length) return FULL;
        text[letters] = (char) letter;
        letters++;
        return letters;
    }

    public int wipe() {
        int was = letters;
        letters = 0;
        return was;
    }

    public int fault() {
        return reader.firstFault(text, letters);
    }

    public int lay() {
        if (reader.firstFault(text, letters) != NONE) return NO;
        plan = reader.planRead();
        past.forget();
        return plan.panels.length;
    }

    public int set(int p, int what, int v) {
        Panel panel = plan.panelAt(p);
        if (panel == null || !panel.allows(what, v)) return BAD;
        int was = panel.measure(what);
        if (was == v) return NO;
        change(plan.withPanel(p, panel.withMeasure(what, v)));
        return was;
    }

    public int tell(int what, int v) {
        if (!Plan.allows(what, v)) return BAD;
        int was = plan.measure(what);
        if (was == v) return NO;
        change(plan.withMeasure(what, v));
        return was;
    }

    public int take(int p) {
        if (plan.panelAt(p) == null) return BAD;
        change(plan.withoutPanel(p));
        return plan.panels.length;
    }

    public int undo() {
        Plan before = past.takeLatest();
        if (before == null) return NO;
        plan = before;
        return past.kept;
    }

    private void change(Plan next) {
        past.keep(plan);
        plan = next;
    }

    // ---- numbers

    public int squares(int n) {
        return Numbers.isPrime(n) ? Numbers.squareBits(n) : BAD;
    }

    public int sign(int a, int n) {
        if (a < 0 || a > GREATEST_SIGNED || !Numbers.isPrime(n)) return BAD;
        return Numbers.signOf(a, n) + ONE;
    }

    public int root(int n, int what) {
        if (!Numbers.isPrime(n)) return BAD;
        switch (what) {
            case 0: return Numbers.lowestRoot(n);
            case 1: return Numbers.rootCount(n);
            default: return BAD;
        }
    }

    public int law(int p, int q) {
        if (!Numbers.isPrime(p) || !Numbers.isPrime(q) || p == q) return BAD;
        return Numbers.signOf(p, q) * Numbers.signOf(q, p) + ONE;
    }

    // ---- panels

    public int panel(int p, int what) {
        Panel panel = plan.panelAt(p);
        if (panel == null) return BAD;
        switch (what) {
            case 0: return panel.kind;
            case 1: return panel.prime;
            case 2: return panel.factor;
            case 3: return panel.offset;
            case 4: return panel.wells;
            case 5: return panel.period;
            case 6: return panel.greatestDepth();
            case 7: return panel.depthsTogether();
            case 8: return panel.unlikeDepths();
            case 9: return panel.isMirrored() ? 1 : 0;
            case 10: return panel.evenness();
            default: return BAD;
        }
    }

    public int well(int p, int i) {
        Panel panel = plan.panelAt(p);
        if (panel == null || !panel.hasWell(i)) return BAD;
        return panel.wellDepth(i);
    }

    public int counts(int p, int k, int d) {
        Panel panel = plan.panelAt(p);
        if (panel == null || k < 0 || k >= panel.period || !panel.isRest(d)) return BAD;
        return panel.countOf(k, d);
    }

    public int plane(int p, int x, int y) {
        Panel panel = plan.panelAt(p);
        if (panel == null || !panel.isRest(x) || !panel.isRest(y)) return BAD;
        return panel.planeDepth(x, y);
    }

    public int planes(int p, int depth) {
        Panel panel = plan.panelAt(p);
        if (panel == null || !panel.isRest(depth)) return BAD;
        return panel.planePlaces(depth);
    }

    // ---- boards

    public int cut(int what) {
        if (what < 0 || what > 4) return BAD;
        saw.cutAll(plan);
        switch (what) {
            case 0: return saw.boards;
            case 1: return saw.blocks;
            case 2: return saw.lost;
            case 3: return Numbers.roundedUp(saw.lengths, plan.boardLength);
            default: return saw.boards * plan.boardLength - saw.lengths;
        }
    }

    public int board(int b, int what) {
        if (b < 0 || what < 0 || what > 2) return BAD;
        saw.cutAll(plan);
        if (b >= saw.boards || b >= MOST_BLOCKS) return BAD;
        switch (what) {
            case 0: return saw.pieces[b];
            case 1: return saw.leftOf(b);
            default: return saw.longest[b];
        }
    }

    public int where(int p, int i) {
        Panel panel = plan.panelAt(p);
        if (panel == null || !panel.hasWell(i)) return BAD;
        saw.cutAll(plan);
        return saw.boardOfWell(plan.wellsBefore(p) + i);
    }

    public int best(int p, int what) {
        Panel panel = plan.panelAt(p);
        if (panel == null || what < 0 || what > 1) return BAD;
        int offset = 0, lost = 0, boards = 0, left = 0;
        for (int o = 0; o < panel.prime; o++) {
            saw.cutAllMoved(plan, p, o);
            if (o == 0 || saw.isBetterThan(lost, boards, left)) {
                offset = o;
                lost = saw.lost;
                boards = saw.boards;
                left = saw.leftOfLast();
            }
        }
        return what == 0 ? offset : boards;
    }

    public int count(int what) {
        switch (what) {
            case 0: return plan.panels.length;
            case 1: return plan.unit;
            case 2: return plan.boardLength;
            case 3: return plan.cutWidth;
            case 4: return past.kept;
            case 5: return letters;
            case 6: return plan.wellsBefore(MOST_PANELS);
            default: return BAD;
        }
    }

    /** Rests, SQUARES, SIGNS and ROOTS. */
    private static final class Numbers {
        static boolean isPrime(int n) {
            for (int prime : PRIMES) {
                if (prime == n) return true;
            }
            return false;
        }

        /** What a leaves by n, 0 to n - 1, also below 0. */
        static int rest(int a, int n) {
            if (n < 1) return 0;
            int left = a % n;
            return left < 0 ? left + n : left;
        }

        static int roundedUp(int a, int n) {
            return n < 1 ? 0 : (a + n - 1) / n;
        }

        static int squareBits(int n) {
            int bits = 0;
            for (int x = 1; x < n; x++) bits |= 1 << (x * x % n);
            return bits;
        }

        static int signOf(int a, int n) {
            int left = rest(a, n);
            if (left == 0) return 0;
            return (squareBits(n) >> left & 1) == 1 ? 1 : -1;
        }

        static boolean isRoot(int f, int n) {
            if (f < 2 || f >= n) return false;
            int seen = 0, power = 1;
            for (int e = 1; e < n; e++) {
                power = power * f % n;
                if ((seen >> power & 1) == 1) return false;
                seen |= 1 << power;
            }
            return true;
        }

        static int lowestRoot(int n) {
            for (int f = 2; f < n; f++) {
                if (isRoot(f, n)) return f;
            }
            return BAD;
        }

        static int rootCount(int n) {
            int roots = 0;
            for (int f = 2; f < n; f++) {
                if (isRoot(f, n)) roots++;
            }
            return roots;
        }
    }

    /** A PANEL; it never changes, so that plans of the past may share it. */
    private static final class Panel {
        final int kind, prime, factor, offset, wells, period;
        private final int[] row;

        Panel(int kind, int prime, int factor, int offset, int wells) {
            this.kind = kind;
            this.prime = prime;
            this.factor = factor;
            this.offset = offset;
            this.wells = wells;
            this.period = kind == POWERS ? prime - 1 : prime;
            this.row = rowOf(kind, prime, factor);
        }

        private static int[] rowOf(int kind, int prime, int factor) {
            int[] row = new int[GREATEST_PRIME];
            int power = 1, squares = Numbers.squareBits(prime);
            for (int n = 0; n < prime && n < row.length; n++) {
                power = Numbers.rest(power * factor, prime);
                if (kind == SQUARES) row[n] = Numbers.rest(factor * n * n, prime);
                else if (kind == POWERS) row[n] = power;
                else row[n] = (squares >> n & 1) == 1 ? factor : 0;
            }
            return row;
        }

        static boolean factorFits(int kind, int prime, int factor) {
            if (kind == SQUARES) return factor >= 1 && factor < prime;
            if (kind == POWERS) return Numbers.isRoot(factor, prime);
            return factor >= 1 && factor <= GREATEST_SIGNS_FACTOR;
        }

        static boolean offsetFits(int prime, int offset) {
            return offset >= 0 && offset < prime;
        }

        static boolean wellsFit(int wells) {
            return wells >= 1 && wells <= MOST_WELLS;
        }

        boolean allows(int what, int v) {
            switch (what) {
                case 0: return factorFits(kind, prime, v);
                case 1: return offsetFits(prime, v);
                case 2: return wellsFit(v);
                default: return false;
            }
        }

        int measure(int what) {
            switch (what) {
                case 0: return factor;
                case 1: return offset;
                default: return wells;
            }
        }

        Panel withMeasure(int what, int v) {
            switch (what) {
                case 0: return new Panel(kind, prime, v, offset, wells);
                case 1: return new Panel(kind, prime, factor, v, wells);
                default: return new Panel(kind, prime, factor, offset, v);
            }
        }

        boolean hasWell(int i) {
            return i >= 0 && i < wells;
        }

        boolean isRest(int d) {
            return d >= 0 && d < prime;
        }

        int depthAt(int place) {
            int n = Numbers.rest(place, period);
            return n < row.length ? row[n] : 0;
        }

        int wellDepth(int i) {
            return depthAt(i + offset);
        }

        int greatestDepth() {
            int greatest = 0;
            for (int i = 0; i < wells; i++) greatest = Math.max(greatest, wellDepth(i));
            return greatest;
        }

        int depthsTogether() {
            int together = 0;
            for (int i = 0; i < wells; i++) together += wellDepth(i);
            return together;
        }

        int unlikeDepths() {
            int seen = 0;
            for (int i = 0; i < wells; i++) seen |= 1 << wellDepth(i);
            return Integer.bitCount(seen);
        }

        boolean isMirrored() {
            for (int i = 0; i < wells; i++) {
                if (wellDepth(i) != wellDepth(wells - 1 - i)) return false;
            }
            return true;
        }

        private int differenceAt(int n, int k) {
            return Numbers.rest(depthAt(n + k) - depthAt(n), prime);
        }

        int countOf(int k, int d) {
            int found = 0;
            for (int n = 0; n < period; n++) {
                if (differenceAt(n, k) == d) found++;
            }
            return found;
        }

        int evenness() {
            int[] tally = new int[GREATEST_PRIME];
            int most = 0, least = period;
            for (int k = 1; k < period; k++) {
                Arrays.fill(tally, 0);
                for (int n = 0; n < period; n++) {
                    int d = differenceAt(n, k);
                    if (d < tally.length) tally[d]++;
                }
                for (int d = 0; d < prime && d < tally.length; d++) {
                    most = Math.max(most, tally[d]);
                    least = Math.min(least, tally[d]);
                }
            }
            return most - least;
        }

        int planeDepth(int x, int y) {
            return Numbers.rest(depthAt(x) + depthAt(y), prime);
        }

        int planePlaces(int depth) {
            int places = 0;
            for (int x = 0; x < prime; x++) {
                for (int y = 0; y < prime; y++) {
                    if (planeDepth(x, y) == depth) places++;
                }
            }
            return places;
        }
    }

    /** All that is LAID; it never changes, so that undoing is taking the plan before. */
    private static final class Plan {
        final Panel[] panels;
        final int unit, boardLength, cutWidth;

        Plan(Panel[] panels, int unit, int boardLength, int cutWidth) {
            this.panels = panels;
            this.unit = unit;
            this.boardLength = boardLength;
            this.cutWidth = cutWidth;
        }

        Panel panelAt(int p) {
            return p < 0 || p >= panels.length ? null : panels[p];
        }

        int wellsBefore(int p) {
            int wells = 0;
            for (int q = 0; q < p && q < panels.length; q++) {
                Panel panel = panels[q];
                if (panel != null) wells += panel.wells;
            }
            return wells;
        }

        Plan withPanel(int p, Panel panel) {
            Panel[] changed = panels.clone();
            if (p >= 0 && p < changed.length) changed[p] = panel;
            return new Plan(changed, unit, boardLength, cutWidth);
        }

        Plan withoutPanel(int p) {
            if (p < 0 || p >= panels.length) return this;
            Panel[] fewer = new Panel[panels.length - 1];
            for (int q = 0; q < fewer.length; q++) fewer[q] = panels[q < p ? q : q + 1];
            return new Plan(fewer, unit, boardLength, cutWidth);
        }

        static boolean allows(int what, int v) {
            switch (what) {
                case 0: return v >= 1 && v <= 20;
                case 1: return v >= 20 && v <= 400;
                case 2: return v >= 0 && v <= 5;
                default: return false;
            }
        }

        int measure(int what) {
            switch (what) {
                case 0: return unit;
                case 1: return boardLength;
                default: return cutWidth;
            }
        }

        Plan withMeasure(int what, int v) {
            switch (what) {
                case 0: return new Plan(panels, v, boardLength, cutWidth);
                case 1: return new Plan(panels, unit, v, cutWidth);
                default: return new Plan(panels, unit, boardLength, v);
            }
        }
    }

    /** The plans to which undoing goes back, the oldest first. */
    private static final class Past {
        private final Plan[] plans = new Plan[MOST_UNDONE];
        int kept = 0;

        void forget() {
            for (int i = 0; i < plans.length; i++) plans[i] = null;
            kept = 0;
        }

        void keep(Plan plan) {
            if (kept >= plans.length) {
                for (int i = 1; i < plans.length; i++) plans[i - 1] = plans[i];
                kept = plans.length - 1;
            }
            if (kept >= 0) plans[kept] = plan;
            kept++;
        }

        Plan takeLatest() {
            if (kept < 1 || kept > plans.length) return null;
            kept--;
            Plan latest = plans[kept];
            plans[kept] = null;
            return latest;
        }
    }

    /** Reads THE TEXT, ITEM by ITEM. */
    private static final class Reader {
        private final Panel[] panels = new Panel[MOST_PANELS];
        private final int[] numbers = new int[MOST_NUMBERS];
        private char[] text;
        private int letters, panelCount, unit, boardLength, cutWidth;

        /** FAULT, or NONE; in that case planRead tells what was read. */
        int firstFault(char[] written, int length) {
            text = written;
            letters = length;
            panelCount = 0;
            unit = 3;
            boardLength = 100;
            cutWidth = 1;
            int end = 0;
            for (int place = 0; place < letters; place = end) {
                end = readItem(place);
                if (end <= place) return place;
            }
            return NONE;
        }

        Plan planRead() {
            Panel[] read = new Panel[Math.max(0, Math.min(panelCount, panels.length))];
            for (int p = 0; p < read.length; p++) read[p] = panels[p];
            return new Plan(read, unit, boardLength, cutWidth);
        }

        /** The place behind the ITEM, or BAD if it is none. */
        private int readItem(int place) {
            char first = letterAt(place);
            int needed = numbersOf(first);
            if (needed < 1) return BAD;
            int at = place + 1;
            for (int i = 0; i < needed && i < numbers.length; i++) {
                int end = endOfFigures(at);
                char mark = i == needed - 1 ? ';' : ',';
                if (end == at || letterAt(end) != mark) return BAD;
                numbers[i] = valueOf(at, end);
                at = end + 1;
            }
            return keepItem(first) ? at : BAD;
        }

        private static int numbersOf(char first) {
            switch (first) {
                case 'q': case 'r': case 'l': return 4;
                case 'b': return 2;
                case 'u': return 1;
                default: return 0;
            }
        }

        private char letterAt(int place) {
            if (text == null || place < 0 || place >= letters || place >= text.length) return 0;
            return text[place];
        }

        private boolean isFigure(int place) {
            char letter = letterAt(place);
            return letter >= '0' && letter <= '9';
        }

        private int endOfFigures(int start) {
            int figures = 0;
            while (figures < MOST_FIGURES && isFigure(start + figures)) figures++;
            return start + figures;
        }

        private int valueOf(int start, int end) {
            int value = 0;
            for (int place = start; place < end; place++) value = value * 10 + letterAt(place) - '0';
            return value;
        }

        private boolean keepItem(char first) {
            if (first == 'u') return keepUnit();
            if (first == 'b') return keepBoard();
            int kind = first == 'q' ? SQUARES : first == 'r' ? POWERS : SIGNS;
            int prime = numbers[0], factor = numbers[1], offset = numbers[2], wells = numbers[3];
            if (panelCount < 0 || panelCount >= panels.length || !Numbers.isPrime(prime)) return false;
            if (!Panel.factorFits(kind, prime, factor)) return false;
            if (!Panel.offsetFits(prime, offset) || !Panel.wellsFit(wells)) return false;
            panels[panelCount] = new Panel(kind, prime, factor, offset, wells);
            panelCount++;
            return true;
        }

        private boolean keepUnit() {
            if (!Plan.allows(0, numbers[0])) return false;
            unit = numbers[0];
            return true;
        }

        private boolean keepBoard() {
            if (!Plan.allows(1, numbers[0]) || !Plan.allows(2, numbers[1])) return false;
            boardLength = numbers[0];
            cutWidth = numbers[1];
            return true;
        }
    }

    /** Cuts the BLOCKS of a plan from BOARDS; its rows are used again by each cutting. */
    private static final class Saw {
        private final int[] depths = new int[MOST_BLOCKS];
        private final int[] alike = new int[GREATEST_DEPTH + 1];
        private final int[] boardOf = new int[MOST_BLOCKS];
        private final int[] used = new int[MOST_BLOCKS];
        final int[] pieces = new int[MOST_BLOCKS];
        final int[] longest = new int[MOST_BLOCKS];
        private int wells, unit, boardLength, cutWidth;
        int boards, blocks, lost, lengths;

        void cutAll(Plan plan) {
            cutAllMoved(plan, NONE, 0);
        }

        /** As if the PANEL moved had this OFFSET. */
        void cutAllMoved(Plan plan, int moved, int offset) {
            start(plan);
            for (int p = 0; p < plan.panels.length; p++) {
                Panel panel = plan.panelAt(p);
                if (panel != null) gather(panel, p == moved ? offset : panel.offset);
            }
            for (int depth = GREATEST_DEPTH; depth > 0; depth--) {
                if (depth * unit > boardLength) lost += alike[depth];
                else cutAlike(depth * unit, alike[depth]);
            }
        }

        private void start(Plan plan) {
            unit = plan.unit;
            boardLength = plan.boardLength;
            cutWidth = plan.cutWidth;
            wells = 0;
            boards = 0;
            blocks = 0;
            lost = 0;
            lengths = 0;
            Arrays.fill(alike, 0);
        }

        private void gather(Panel panel, int offset) {
            for (int i = 0; i < panel.wells && wells < MOST_BLOCKS; i++) {
                int depth = panel.depthAt(i + offset);
                if (depth >= 0 && depth < alike.length) alike[depth]++;
                depths[wells] = depth;
                wells++;
            }
        }

        private void cutAlike(int length, int many) {
            // A BOARD without room for one of these has none for the next of them.
            int b = 0;
            for (int i = 0; i < many; i++) {
                while (b < boards && !hasRoom(b, length)) b++;
                cutFrom(b, length);
            }
        }

        private boolean hasRoom(int b, int length) {
            return b < MOST_BLOCKS && used[b] + length + pieces[b] * cutWidth <= boardLength;
        }

        private void cutFrom(int b, int length) {
            if (b < 0 || b >= MOST_BLOCKS || blocks >= MOST_BLOCKS) return;
            if (b == boards) {
                boards++;
                used[b] = 0;
                pieces[b] = 0;
                longest[b] = length;
            }
            used[b] += length;
            pieces[b]++;
            boardOf[blocks] = b;
            blocks++;
            lengths += length;
        }

        int leftOf(int b) {
            return b < 0 || b >= boards || b >= MOST_BLOCKS ? 0 : boardLength - used[b];
        }

        int leftOfLast() {
            return leftOf(boards - 1);
        }

        boolean isBetterThan(int otherLost, int otherBoards, int otherLeft) {
            if (lost != otherLost) return lost < otherLost;
            if (boards != otherBoards) return boards < otherBoards;
            return leftOfLast() > otherLeft;
        }

        /** BLOCKS are cut by depth, then in the order of wells: so many come before this one's. */
        int boardOfWell(int well) {
            if (well < 0 || well >= wells || well >= MOST_BLOCKS) return NONE;
            int depth = depths[well];
            if (depth < 1 || depth * unit > boardLength) return NONE;
            int before = 0;
            for (int w = 0; w < wells && w < MOST_BLOCKS; w++) {
                boolean deeper = depths[w] > depth && depths[w] * unit <= boardLength;
                if (deeper || depths[w] == depth && w < well) before++;
            }
            return before < blocks ? boardOf[before] : NONE;
        }
    }
}
