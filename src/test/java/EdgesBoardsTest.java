/** Promises 19 to 23, the calls "boards": each sentence that names an edge has a test of its own. */
public final class EdgesBoardsTest {
    private static final int BAD = Edges.BAD, NONE = Edges.NONE;
    private static final int MIN = Edges.MIN, MAX = Edges.MAX;
    /** 160 WELLS, 80 of depth 2 and 80 of depth 1 in turn: no two BLOCKS fit on one BOARD. */
    private static final String MOST = "r3,2,0,40;".repeat(4) + "u20;b40,5;";

    public static void main(String[] args) {
        blocks();
        room();
        needAndLeft();
        cutNumbers();
        boards();
        orderOfCutting();
        where();
        bestOrder();
        bestNumbers();
        counts();
        asItStandsThen();
        Edges.end();
    }

    private static void blocks() {
        Edges.edge("19: none of depth 0", () -> {
            Edges.dueCut(Edges.laid("q7,1,0,1;"), 0, 0, 0, 0, 0);
            Edges.dueCut(Edges.laid("q7,1,0,2;"), 1, 1, 0, 1, 97);
            Edges.dueCut(Edges.laid("l7,9,5,3;u20;b20,0;"), 0, 0, 0, 0, 0);
        });
        Edges.edge("19: as long as its depth times the UNIT", () -> {
            Edges.dueCut(Edges.laid("q7,6,1,1;u1;b20,0;"), 1, 1, 0, 1, 14);
            Edges.dueCut(Edges.laid("q7,6,1,1;u3;b20,0;"), 1, 1, 0, 1, 2);
            Edges.dueCut(Edges.laid("q7,6,1,1;u20;b400,0;"), 1, 1, 0, 1, 280);
        });
        Edges.edge("19: longer than a BOARD, it is LOST", () -> {
            SoundWells x = Edges.laid("q3,2,1,1;u10;b20,5;");
            Edges.dueCut(x, 1, 1, 0, 1, 0);
            x.tell(0, 11);
            Edges.dueCut(x, 0, 0, 1, 0, 0);
            x.tell(1, 21);
            Edges.dueCut(x, 0, 0, 1, 0, 0);
            x.tell(1, 22);
            Edges.dueCut(x, 1, 1, 0, 1, 0);
        });
        Edges.edge("19: all others are cut", () -> {
            // 16 14 8 7 by 2 of 21: 32 and 28 are LOST
            Edges.dueCut(Edges.laid("r17,3,7,4;u2;b21,0;"), 2, 2, 2, 2, 12);
        });
        Edges.edge("19: the longest there is, 600 of 400, is LOST", () -> {
            Edges.dueCut(Edges.laid("q31,30,1,1;u20;b400,0;"), 0, 0, 1, 0, 0);
            Edges.dueCut(Edges.laid("q31,20,1,1;u20;b400,0;"), 1, 1, 0, 1, 0);
        });
        Edges.edge("19: of each WELL of each PANEL one (160, too)", () -> Edges.dueCut(Edges.laid(MOST), 160, 160, 0, 120, 1600));
        Edges.edge("19: almost all of 160 LOST, all LOST", () -> {
            // of depth 1 is place 29 alone: one in 40
            Edges.dueCut(Edges.laid("r31,3,0,40;".repeat(4) + "u20;b20,0;"), 4, 4, 156, 4, 0);
            Edges.dueCut(Edges.laid("l31,9,1,2;l31,9,1,2;u20;b20,0;"), 0, 0, 4, 0, 0);
        });
        Edges.edge("19: no PANELS, no BLOCKS, no BOARDS", () -> Edges.dueCut(Edges.laid(""), 0, 0, 0, 0, 0));
    }

    private static void room() {
        Edges.edge("19: together no longer than the BOARD", () -> {
            Edges.dueCut(Edges.laid("q3,1,1,2;u10;b20,0;"), 1, 2, 0, 1, 0);
            Edges.dueCut(Edges.laid("q3,1,1,2;u11;b21,0;"), 2, 2, 0, 2, 20);
            Edges.dueCut(Edges.laid("q3,1,1,2;u11;b22,0;"), 1, 2, 0, 1, 0);
        });
        Edges.edge("19: a cut between two side by side", () -> {
            SoundWells x = Edges.laid("q3,1,1,2;u10;b20,1;");
            Edges.dueCut(x, 2, 2, 0, 1, 20);
            x.tell(1, 21);
            Edges.dueCut(x, 1, 2, 0, 1, 1);
            x.tell(2, 5);
            x.tell(1, 24);
            Edges.dueCut(x, 2, 2, 0, 1, 28);
            x.tell(1, 25);
            Edges.dueCut(x, 1, 2, 0, 1, 5);
        });
        Edges.edge("19: between each two: three have two cuts", () -> {
            SoundWells x = Edges.laid("q7,6,1,1;q7,6,1,1;q7,6,1,1;u1;b20,1;");
            Edges.dueCut(x, 1, 3, 0, 1, 2);
            x.tell(2, 2);
            Edges.dueCut(x, 2, 3, 0, 1, 22);
            x.tell(1, 21);
            Edges.dueCut(x, 2, 3, 0, 1, 24);
            x.tell(1, 22);
            Edges.dueCut(x, 1, 3, 0, 1, 4);
        });
        Edges.edge("19: one alone has no cut", () -> Edges.dueCut(Edges.laid("q3,1,1,1;u20;b20,5;"), 1, 1, 0, 1, 0));
        Edges.edge("19: a cut may be 0", () -> Edges.dueCut(Edges.laid("q3,1,1,40;u1;b27,0;"), 1, 27, 0, 1, 0));
    }

    private static void needAndLeft() {
        Edges.edge("19: NEED, rounded up", () -> {
            // 20, 22 and 40 by 20; 18 by 20
            Edges.due("a whole one", Edges.laid("q3,1,1,2;u10;b20,0;").cut(3), 1);
            Edges.due("one and a bit", Edges.laid("q3,1,1,2;u11;b20,0;").cut(3), 2);
            Edges.due("two whole ones", Edges.laid("q3,1,1,2;u20;b20,0;").cut(3), 2);
            Edges.due("less than one", Edges.laid("q3,1,1,2;u9;b20,0;").cut(3), 1);
            Edges.due("one more than one", Edges.laid("q7,3,1,1;q7,6,1,1;q7,6,1,1;q7,6,1,1;u1;b20,0;").cut(3), 2);
            Edges.due("none", Edges.laid("q3,1,0,1;").cut(3), 0);
        });
        Edges.edge("19: NEED, of BLOCKS that are not LOST", () -> Edges.dueCut(Edges.laid("q3,2,1,1;q3,1,1,1;u20;b20,0;"), 1, 1, 1, 1, 0));
        Edges.edge("19: NEED, without cuts: BOARDS may be more", () -> Edges.dueCut(Edges.laid("q3,1,1,2;u10;b20,1;"), 2, 2, 0, 1, 20));
        Edges.edge("19: LEFT is what is not BLOCK (cuts, too)", () -> {
            Edges.due("LEFT", Edges.laid("q3,1,1,2;u10;b30,5;").cut(4), 10);
            Edges.due("a cut alone", Edges.laid("q3,1,1,2;u10;b25,5;").cut(4), 5);
        });
        Edges.edge("19: LEFT of all BOARDS together", () -> Edges.due("LEFT", Edges.laid("q7,1,1,6;u5;b31,1;").cut(4), 23));
        Edges.edge("19: LEFT without BOARDS, with all LOST", () -> {
            Edges.due("no BLOCKS", Edges.laid("q3,1,0,1;").cut(4), 0);
            Edges.due("all LOST", Edges.laid("q3,2,1,2;u20;b20,0;").cut(4), 0);
        });
    }

    private static void cutNumbers() {
        Edges.edge("19: BAD, what = 0 to 4", () -> {
            SoundWells x = new SoundWells();
            Edges.due("it is told of 0 and 4", x.cut(0) > 0 && x.cut(4) > 0 ? 1 : 0, 1);
            Edges.dueBad("cut", x.cut(-1), x.cut(5), x.cut(6), x.cut(MIN), x.cut(MAX), Edges.laid("").cut(5), Edges.laid("").cut(-1));
        });
    }

    private static void boards() {
        Edges.edge("20: BAD, a BOARD such as there are (0, 1, ..)", () -> {
            SoundWells x = Edges.laid("q7,1,1,6;u5;b31,1;");
            // 20 10 | 20 10 | 5 5
            Edges.dueBoard(x, 0, 2, 1, 20);
            Edges.dueBoard(x, 2, 2, 21, 5);
            Edges.dueBad("board(b, 0)", x.board(-1, 0), x.board(3, 0), x.board(4, 0), x.board(160, 0), x.board(MIN, 0), x.board(MAX, 0));
        });
        Edges.edge("20: BAD, what = 0, 1, 2", () -> {
            SoundWells x = new SoundWells();
            Edges.dueBad("board(0, what)", x.board(0, -1), x.board(0, 3), x.board(0, 4), x.board(0, MIN), x.board(0, MAX));
        });
        Edges.edge("20: BAD, when there is no BOARD", () -> {
            Edges.dueBad("no PANELS", Edges.laid("").board(0, 0));
            Edges.dueBad("no BLOCKS", Edges.laid("q3,1,0,1;").board(0, 1));
            Edges.dueBad("all LOST", Edges.laid("q3,2,1,1;u20;b20,0;").board(0, 2));
        });
        Edges.edge("20: BAD, a BOARD that there was before", () -> {
            SoundWells x = Edges.laid("q3,1,1,2;u20;b20,0;");
            Edges.dueBoard(x, 1, 1, 0, 20);
            x.tell(1, 40);
            Edges.dueBad("one is enough", x.board(1, 0), x.board(1, 1), x.board(1, 2));
            x.undo();
            Edges.dueBoard(x, 1, 1, 0, 20);
        });
        Edges.edge("20: LEFT of a BOARD (0; cuts, too)", () -> {
            Edges.dueBoard(Edges.laid("q3,1,1,1;u20;b20,5;"), 0, 1, 0, 20);
            Edges.dueBoard(Edges.laid("q3,1,1,2;u10;b30,5;"), 0, 2, 10, 10);
            Edges.dueBoard(Edges.laid("q7,6,1,1;q7,6,1,1;q7,6,1,1;u1;b22,2;"), 0, 3, 4, 6);
        });
        Edges.edge("20: the longest BLOCK is one of that BOARD", () -> {
            // 60 20 | 45 45 by 100
            SoundWells x = Edges.laid("q13,2,1,1;q13,9,1,1;q13,9,1,1;q13,12,1,1;u5;b100,0;");
            Edges.dueBoard(x, 0, 2, 30, 60);
            Edges.dueBoard(x, 1, 2, 10, 45);
        });
        Edges.edge("20: 160 BOARDS", () -> {
            SoundWells x = Edges.laid(MOST);
            Edges.dueBoard(x, 0, 1, 0, 40);
            Edges.dueBoard(x, 79, 1, 0, 40);
            Edges.dueBoard(x, 80, 1, 20, 20);
            Edges.dueBoard(x, 159, 1, 20, 20);
            Edges.dueBad("the next", x.board(160, 0));
        });
        Edges.edge("20: 108 BLOCKS from one BOARD", () -> {
            // 27 of each PANEL are 1 long
            SoundWells x = Edges.laid("q3,1,1,40;".repeat(4) + "u1;b215,1;");
            Edges.dueBoard(x, 0, 108, 107, 1);
            x.tell(1, 214);
            Edges.dueBoard(x, 0, 107, 107, 1);
            Edges.dueBoard(x, 1, 1, 213, 1);
        });
    }

    private static void orderOfCutting() {
        Edges.edge("21: the longest first, of whatever PANEL", () -> {
            SoundWells x = Edges.laid("q3,1,1,1;q3,2,1,1;u20;b40,0;");
            Edges.dueWhere(x, 0, 1);
            Edges.dueWhere(x, 1, 0);
        });
        Edges.edge("21: the longest first, of whatever WELL", () -> {
            // 20 40 30 10 by 50: 40 10 | 30 20
            Edges.dueWhere(Edges.laid("r5,2,0,4;u10;b50,0;"), 0, 1, 0, 1, 0);
        });
        Edges.edge("21: of like ones the lowest PANEL, then the lowest WELL", () -> {
            SoundWells x = Edges.laid("q3,1,1,2;q3,1,1,2;q3,1,1,2;u20;b20,0;");
            Edges.dueWhere(x, 0, 0, 1);
            Edges.dueWhere(x, 1, 2, 3);
            Edges.dueWhere(x, 2, 4, 5);
        });
        Edges.edge("21: like ones of unlike PRIMES and KINDS are alike", () -> {
            // all of depth 2
            SoundWells x = Edges.laid("l3,2,1,1;q5,2,1,1;r3,2,0,1;u10;b20,0;");
            for (int p = 0; p < 3; p++) Edges.dueWhere(x, p, p);
        });
        Edges.edge("21: each from the first BOARD that has room", () -> {
            // 60 | 45 45, then 10 fits on both of 100
            SoundWells x = Edges.laid("q13,2,1,1;q13,9,1,1;q13,9,1,1;q13,12,1,1;u5;b100,0;");
            Edges.dueWhere(x, 0, 0);
            Edges.dueWhere(x, 1, 1);
            Edges.dueWhere(x, 2, 1);
            Edges.dueWhere(x, 3, 0);
        });
        Edges.edge("21: a BOARD without room for one may have room for a shorter one", () -> {
            // by 31 with a cut of 1: 20 | 20 | then 10s on 0 and 1, 5s on 2
            Edges.dueWhere(Edges.laid("q7,1,1,6;u5;b31,1;"), 0, 2, 0, 0, 1, 1, 2);
        });
        Edges.edge("21: else from a new one", () -> Edges.dueWhere(Edges.laid("q3,1,1,2;u20;b39,0;"), 0, 0, 1));
    }

    private static void where() {
        Edges.edge("21: NONE: it has none", () -> {
            SoundWells x = Edges.laid("q3,1,0,4;u20;b20,0;");
            Edges.dueWhere(x, 0, NONE, 0, 1, NONE);
        });
        Edges.edge("21: NONE: or it is LOST", () -> {
            // 20 40 30 10 by 39; 40 as long as the BOARD is not LOST
            SoundWells x = Edges.laid("r5,2,0,4;u10;b39,0;");
            Edges.dueWhere(x, 0, 1, NONE, 0, 1);
            x.tell(1, 40);
            Edges.dueWhere(x, 0, 2, 0, 1, 1);
        });
        Edges.edge("21: NONE, all LOST", () -> Edges.dueWhere(Edges.laid("q3,2,1,2;u20;b39,0;"), 0, NONE, NONE));
        Edges.edge("21: BAD, a WELL such as there are", () -> {
            SoundWells x = Edges.laid("q7,1,0,3;q7,1,0,40;");
            Edges.due("the last of 40", x.where(1, 39) >= 0 ? 1 : 0, 1);
            Edges.dueBad("where(p, i)", x.where(0, -1), x.where(0, 3), x.where(0, 39), x.where(1, 40), x.where(1, -1), x.where(0, MIN), x.where(0, MAX));
        });
        Edges.edge("21: BAD, a PANEL such as there are", () -> {
            SoundWells x = new SoundWells();
            Edges.dueBad("where(p, 0)", x.where(-1, 0), x.where(3, 0), x.where(4, 0), x.where(MIN, 0), x.where(MAX, 0), Edges.laid("").where(0, 0));
        });
        Edges.edge("21: of several the first, BAD before NONE", () -> {
            SoundWells x = Edges.laid("q7,1,0,1;");
            Edges.due("it has none", x.where(0, 0), NONE);
            Edges.dueBad("no such WELL", x.where(0, 7), x.where(0, 1), x.where(1, 0));
        });
        Edges.edge("21: of 160 BLOCKS", () -> {
            SoundWells x = Edges.laid(MOST);
            Edges.due("the first long one", x.where(0, 0), 0);
            Edges.due("the first short one", x.where(0, 1), 80);
            Edges.due("the last long one", x.where(3, 38), 79);
            Edges.due("the last short one", x.where(3, 39), 159);
        });
    }

    private static void dueBest(String text, int p, int offset, int boards) {
        SoundWells x = Edges.laid(text);
        Edges.due("best(" + p + ", 0) of " + text, x.best(p, 0), offset);
        Edges.due("best(" + p + ", 1) of " + text, x.best(p, 1), boards);
    }

    private static void bestOrder() {
        Edges.edge("22: LOST ones are fewest, before BOARDS", () -> {
            // 40 80 60 20 of 20: without BOARDS, but LOST, or one of 20
            dueBest("r5,2,1,1;u20;b20,0;", 0, 3, 1);
        });
        Edges.edge("22: of several BOARDS, before what is LEFT", () -> {
            // of 40: 40 | 20, 40 | 30, 30 10, 20 10
            dueBest("r5,2,0,2;u10;b40,0;", 0, 3, 1);
        });
        Edges.edge("22: of several what is LEFT of the last BOARD is most", () -> {
            // of 50: 40 | 30 20, 40 10 | 30, 30 20 | 10, 40 10 | 20
            dueBest("r5,2,0,3;u10;b50,0;", 0, 2, 2);
        });
        Edges.edge("22: of the last BOARD, not of all", () -> {
            // of 30 with a cut of 1, none LOST: 30 | 10 and 20 | 10, 20 is LEFT of the last by both
            dueBest("r5,2,0,2;u10;b30,1;", 0, 2, 2);
        });
        Edges.edge("22: (0 without BOARDS)", () -> {
            // 0 1 0: OFFSETS 0 and 2 are without BOARDS, with one between
            dueBest("l3,1,0,1;", 0, 0, 0);
            dueBest("l3,1,1,1;", 0, 0, 0);
            dueBest("l7,9,2,3;", 0, 5, 0);
            // a BOARD of before is nobody's last one
            SoundWells x = Edges.laid("l3,1,1,1;u20;b100,0;");
            Edges.due("boards", x.cut(0), 1);
            x.tell(0, 1);
            Edges.due("best(0, 0)", x.best(0, 0), 0);
        });
        Edges.edge("22: of several the lowest", () -> {
            dueBest("r3,2,1,2;", 0, 0, 1);
            // 0 1 1 0 1 0 0: 5 and 6 have two of depth 0
            dueBest("l7,1,0,2;", 0, 5, 0);
        });
        Edges.edge("22: of OFFSETS 0 .. (0, too)", () -> dueBest("q7,1,3,1;", 0, 0, 0));
        Edges.edge("22: of OFFSETS .. N - 1 (N - 1, too)", () -> {
            // 0 1 0: only places 2 and 3 are both of depth 0
            dueBest("l3,1,0,2;", 0, 2, 0);
            dueBest("l3,9,2,2;", 0, 2, 0);
        });
        Edges.edge("22: all LOST by each OFFSET: the lowest, no BOARDS", () -> dueBest("l7,9,3,7;u20;b20,0;", 0, 0, 0));
    }

    private static void bestNumbers() {
        Edges.edge("22: all else as it is", () -> {
            // with one of 30 of 40: 40 | 30 | 20, 40 | 30 | 30, 30 10 | 30, 30 10 | 20
            dueBest("q5,3,1,1;r5,2,0,2;u10;b40,0;", 1, 3, 2);
            // with one of 20: 20 20, 20 10; if the other went along, it would have none by OFFSET 0
            dueBest("q3,2,1,1;r3,2,0,1;u10;", 1, 1, 1);
        });
        Edges.edge("22: whatever the OFFSET is now", () -> {
            for (int o = 0; o < 5; o++) dueBest("r5,2," + o + ",3;u10;b50,0;", 0, 2, 2);
        });
        Edges.edge("22: it is asked, not told anew", () -> {
            SoundWells x = Edges.laid("r5,2,0,3;u10;b50,0;");
            String before = Edges.look(x);
            x.best(0, 0);
            x.best(0, 1);
            Edges.due("all", Edges.look(x), before);
            Edges.dueWhere(x, 0, 1, 0, 1);
        });
        Edges.edge("22: BAD, what = 0, 1", () -> {
            SoundWells x = new SoundWells();
            Edges.dueBad("best(0, what)", x.best(0, -1), x.best(0, 2), x.best(0, 3), x.best(0, MIN), x.best(0, MAX));
        });
        Edges.edge("22: BAD, a PANEL such as there are", () -> {
            SoundWells x = new SoundWells();
            Edges.dueBad("best(p, 0)", x.best(-1, 0), x.best(3, 0), x.best(4, 1), x.best(MIN, 0), x.best(MAX, 1), Edges.laid("").best(0, 0));
        });
    }

    private static void counts() {
        Edges.edge("23: BAD, what = 0 to 6", () -> {
            SoundWells x = new SoundWells();
            Edges.due("the first", x.count(0), 3);
            Edges.due("the last", x.count(6), 37);
            Edges.dueBad("count", x.count(-1), x.count(7), x.count(8), x.count(MIN), x.count(MAX));
        });
        Edges.edge("23: PANELS, WELLS: none", () -> Edges.dueCounts(Edges.laid(""), 0, 3, 100, 1, 0, 0, 0));
        Edges.edge("23: PANELS, WELLS: as many as can be", () -> Edges.dueCounts(Edges.laid(MOST), 4, 20, 40, 5, 0, 50, 160));
        Edges.edge("23: changes that can be UNDONE (0 to 6)", () -> {
            SoundWells x = new SoundWells();
            for (int i = 0; i <= 9; i++) {
                Edges.due("changes", x.count(4), Math.min(i, 6));
                x.tell(0, 4 + i);
            }
            x.undo();
            Edges.due("behind an undo", x.count(4), 5);
        });
        Edges.edge("23: letters of THE TEXT (0 to 200)", () -> {
            SoundWells x = new SoundWells();
            Edges.due("none", x.count(5), 0);
            for (int i = 1; i <= 201; i++) {
                x.write('a');
                Edges.due("letters", x.count(5), Math.min(i, 200));
            }
        });
        Edges.edge("23: UNIT, BOARD, cut, each its own", () -> {
            SoundWells x = new SoundWells();
            x.tell(0, 20);
            x.tell(1, 400);
            x.tell(2, 0);
            Edges.dueCounts(x, 3, 20, 400, 0, 3);
        });
    }

    private static void dueAll(SoundWells x, String text) {
        SoundWells fresh = Edges.laid(text);
        for (int what = 0; what <= 4; what++) Edges.due("cut as of " + text, x.cut(what), fresh.cut(what));
        for (int what = 0; what <= 2; what++) Edges.due("board as of " + text, x.board(0, what), fresh.board(0, what));
        for (int i = 0; i < 6; i++) Edges.due("where as of " + text, x.where(0, i), fresh.where(0, i));
        Edges.due("best as of " + text, x.best(0, 0), fresh.best(0, 0));
        for (int what = 0; what <= 10; what++) Edges.due("panel as of " + text, x.panel(0, what), fresh.panel(0, what));
    }

    private static void asItStandsThen() {
        Edges.edge("all that is asked is told of all as it stands then", () -> {
            SoundWells x = Edges.laid("q7,1,0,6;l7,3,1,5;u5;b40,1;");
            dueAll(x, "q7,1,0,6;l7,3,1,5;u5;b40,1;");
            x.set(0, 0, 3);
            dueAll(x, "q7,3,0,6;l7,3,1,5;u5;b40,1;");
            x.set(0, 1, 2);
            dueAll(x, "q7,3,2,6;l7,3,1,5;u5;b40,1;");
            x.set(1, 2, 9);
            dueAll(x, "q7,3,2,6;l7,3,1,9;u5;b40,1;");
            x.tell(0, 7);
            dueAll(x, "q7,3,2,6;l7,3,1,9;u7;b40,1;");
            x.tell(1, 33);
            dueAll(x, "q7,3,2,6;l7,3,1,9;u7;b33,1;");
            x.tell(2, 5);
            dueAll(x, "q7,3,2,6;l7,3,1,9;u7;b33,5;");
            x.take(1);
            dueAll(x, "q7,3,2,6;u7;b33,5;");
            x.undo();
            dueAll(x, "q7,3,2,6;l7,3,1,9;u7;b33,5;");
            x.undo();
            dueAll(x, "q7,3,2,6;l7,3,1,9;u7;b33,1;");
            x.lay();
            dueAll(x, "q7,1,0,6;l7,3,1,5;u5;b40,1;");
        });
    }
}
