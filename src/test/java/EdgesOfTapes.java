/** Sentences of the Terms that tell of acts, the image, tapes and judging; promises 28 to 38. */
final class EdgesOfTapes {
    private static final int FAR = Integer.MAX_VALUE;
    private static final int FAR_BELOW = Integer.MIN_VALUE;
    private static final long NO = OnlyStrangers.NO;
    private static final int[] NO_TAPES = {-1, 6, 7, FAR, FAR_BELOW};

    private EdgesOfTapes() {
    }

    static void all() {
        acts();
        bodiesAbove();
        trace();
        refusedActs();
        imageKeeps();
        imageLeaves();
        imageOfRows();
        imageAnswers();
        tapesAtFirst();
        judged();
        judgedNobody();
        judgedTooShort();
        judgeRefuses();
        taken();
        counts();
        tapes();
        items();
        itemsWrap();
        read();
        shifts();
        shiftsOverlapping();
        shiftRefuses();
    }

    // ---- acts

    private static int takes(int kind, int i, int v, int x) {
        switch (kind) {
            case 2: case 5: return x * 3 + i;
            case 4: return -(x + i);
            case 6: return (x + i) ^ v;
            default: return x + i;
        }
    }

    private static int rows(int kind, int i, int v, int x) {
        switch (kind) {
            case 1: return (x + i - v) ^ 6;
            case 4: return (-(x + 1 + i) - v) ^ 6;
            case 6: return takes(kind, i, v, x) - v + 2 + i;
            default: return takes(kind, i, v, x) - v;
        }
    }

    private static int tells(int kind, int i, int v, int x) {
        switch (kind) {
            case 3: case 6: return rows(kind, i, v, x) * 2 + rows(kind, i, v, 1);
            case 5: return rows(kind, i, v, x - i) * 2;
            default: return rows(kind, i, v, x) * 2;
        }
    }

    private static void acts() {
        Edge.says(Edge.TERMS, "ACTS of a PLAN with x (wrapping): 0 takes, 1 rows, 2 tells; i its number. BODIES: PLAN: 10 takes: x + i. 11 rows: takes(x) - v. 12 tells: rows(x) * 2. FULL: 20 rows: super.rows(x) ^ 6. NEED: 30 takes: super.takes(x * 3). LOT: 40 tells: super.tells(x) + rows(1). BEST: 50 takes: -super.takes(x). 51 rows: super.rows(x + 1). TOLD: 60 tells: super.tells(x - i). SPARING: 70 rows: super.rows(x) + super.takes(2). 71 takes: super.takes(x) ^ v.");
        Edge.says(31, "An ACT (0 takes, 1 rows, 2 tells) of a PLAN with x.");
        int[] with = {0, 1, -1, 5, -9, FAR, FAR - 1, FAR - 9, FAR_BELOW, FAR_BELOW + 1, FAR_BELOW + 9, 0x55555555, 0x2aaaaaab,
            0x40000000, -0x40000000};
        for (int turn = 0; turn < 7; turn++) {
            OnlyStrangers x = new OnlyStrangers();
            for (int i = 0; i < 10; i++) {
                x.plan((i + turn) % 7, (i * 3 + turn) % 10);
            }
            for (int i = 0; i < 10; i++) {
                int kind = (i + turn) % 7;
                int v = (i * 3 + turn) % 10;
                for (int w : with) {
                    String call = "act(" + i + ", .., " + w + ") of kind " + kind + ", v " + v;
                    Edge.due(call + ", takes", x.act(i, 0, w), takes(kind, i, v, w));
                    Edge.due(call + ", rows", x.act(i, 1, w), rows(kind, i, v, w));
                    Edge.due(call + ", tells", x.act(i, 2, w), tells(kind, i, v, w));
                }
            }
        }
    }

    private static final int[][][] RUN = {
        {{10}, {11, 10}, {12, 11, 10}},
        {{10}, {20, 11, 10}, {12, 20, 11, 10}},
        {{30, 10}, {11, 30, 10}, {12, 11, 30, 10}},
        {{10}, {11, 10}, {40, 12, 11, 10, 11, 10}},
        {{50, 10}, {51, 20, 11, 50, 10}, {12, 51, 20, 11, 50, 10}},
        {{30, 10}, {11, 30, 10}, {60, 12, 11, 30, 10}},
        {{71, 10}, {70, 11, 71, 10, 10}, {40, 12, 70, 11, 71, 10, 10, 70, 11, 71, 10, 10}}};

    private static void bodiesAbove() {
        Edge.says(Edge.TERMS, "takes(..) and so on: the body of its KIND, or, if that has none, of the next KIND above that has one; super.takes(..): so from the KIND above the body's on; all that stands in a body is done from the left on.");
        Edge.says(32, "THE TRACE's i-th body.");
        for (int kind = 0; kind < 7; kind++) {
            OnlyStrangers x = new OnlyStrangers();
            x.plan(kind, 1);
            for (int act = 0; act < 3; act++) {
                x.act(0, act, 7);
                int[] due = RUN[kind][act];
                Edge.due("count(5) of kind " + kind + ", act " + act, x.count(5), due.length);
                for (int i = 0; i < 24; i++) {
                    Edge.due("trace(" + i + ") of kind " + kind + ", act " + act, x.trace(i), i < due.length ? due[i] : -1);
                }
            }
        }
    }

    private static void trace() {
        Edge.says(Edge.TERMS, "THE TRACE: the numbers of the bodies that ran in the latest act(), as they began; the first 20 are kept.");
        OnlyStrangers x = new OnlyStrangers();
        Edge.due("trace(0) ahead of any act", x.trace(0), -1);
        Edge.due("count(5) ahead of any act", x.count(5), 0);
        x.plan(6, 0);
        x.plan(0, 0);
        x.act(0, 2, 3);
        // no act of any kind runs more than 12 bodies, so that all are kept
        Edge.due("count(5)", x.count(5), 12);
        Edge.due("trace(0)", x.trace(0), 40);
        Edge.due("trace(11)", x.trace(11), 10);
        x.by(0, 2);
        x.run(0, 40, 0);
        x.plan(3, 3);
        x.image();
        x.undo();
        Edge.due("trace(0): as the latest act left it", x.trace(0), 40);
        x.act(1, 0, 3);
        Edge.due("trace(0)", x.trace(0), 10);
        Edge.due("trace(1) of the act ahead is gone", x.trace(1), -1);
        Edge.due("count(5)", x.count(5), 1);
        Edge.says(32, "NONE.");
        x.act(0, 2, 3);
        for (int no : new int[] {-1, 12, 13, 19, 20, 21, FAR, FAR_BELOW}) {
            Edge.due("trace(" + no + ")", x.trace(no), -1);
        }
    }

    private static void refusedActs() {
        Edge.says(31, "0, and no TRACE then: no such PLAN, act.");
        OnlyStrangers x = new OnlyStrangers();
        x.plan(2, 5);
        x.plan(6, 5);
        for (int no : new int[] {-1, 2, 9, 10, FAR, FAR_BELOW}) {
            for (int act = -1; act < 4; act++) {
                x.act(1, 2, 9);
                Edge.due("act(" + no + ", " + act + ", 9)", x.act(no, act, 9), 0);
                Edge.due("count(5)", x.count(5), 0);
                Edge.due("trace(0)", x.trace(0), -1);
            }
        }
        for (int no : new int[] {-1, 3, FAR, FAR_BELOW}) {
            x.act(1, 2, 9);
            Edge.due("act(1, " + no + ", 9)", x.act(1, no, 9), 0);
            Edge.due("count(5)", x.count(5), 0);
            Edge.due("trace(0)", x.trace(0), -1);
        }
    }

    // ---- the image

    private static OnlyStrangers scene() {
        OnlyStrangers x = Edge.with(Edge.people("01", "10", "00"), "holds 3;forget 9");
        x.plan(5, 2);
        x.row(0, 0, 3);
        x.row(0, 2, 9);
        x.cross(1);
        x.meet(1, 2, true);
        x.book(5);
        x.book(6);
        return x;
    }

    private static void imageKeeps() {
        Edge.says(Edge.TERMS, "THE IMAGE: PEOPLE with SHORES and what they WANT, THE BOAT, CROSSINGS, KNOWN, ROWS of TOLD PLANS, the BOOK, which PARISH holds (");
        Edge.says(29, "THE IMAGE is taken: how many PEOPLE there are.");
        Edge.says(30, "All is as THE IMAGE: how many PEOPLE.");
        OnlyStrangers x = scene();
        Edge.due("image()", x.image(), 3);
        for (int turn = 0; turn < 2; turn++) {
            x.cross(2);
            x.person(1, 1);
            x.person(0, 0);
            x.set(2, 0, 1);
            x.set(0, 1, 0);
            x.meet(0, 4, true);
            x.meet(1, 2, false);
            x.boat(1);
            x.row(0, 0, 8);
            x.row(0, 1, 7);
            x.book(-1);
            x.book(31);
            x.book(16);
            Edge.with(x, "holds 5;least 2");
            Edge.due("undo()", x.undo(), 3);
            Edge.due("count(0)", x.count(0), 3);
            Edge.due("of(3, 0)", x.of(3, 0), -1);
            int[][] due = {{1, 1, 0}, {1, 0, 1}, {0, 0, 1}};
            for (int p = 0; p < 3; p++) {
                for (int what = 0; what < 3; what++) {
                    Edge.due("of(" + p + ", " + what + ")", x.of(p, what), due[p][what]);
                }
            }
            int[] told = {3, 1, 9, 1, 1, 1};
            for (int what = 0; what < 6; what++) {
                Edge.due("told(" + what + ")", x.told(what), told[what]);
            }
            Edge.due("pair(1, 2, 2)", x.pair(1, 2, 2), 0);
            Edge.due("count(3)", x.count(3), 2);
            Edge.due("row(0, 0, 3)", x.row(0, 0, 3), 3);
            Edge.due("row(0, 1, 0)", x.row(0, 1, 0), 0);
            Edge.due("row(0, 2, 9)", x.row(0, 2, 9), 9);
        }
        x.boat(0);
        x.set(0, 0, 0);
        Edge.due("readBook() of 5, 6", x.readBook(), 1);
        x.undo();
        Edge.due("person() where 3 was once", x.person(0, 0), 3);
        Edge.due("of(3, 2)", x.of(3, 2), 0);
        Edge.due("person() where 4 was once", x.person(0, 0), 4);
        Edge.due("pair(0, 4, 2)", x.pair(0, 4, 2), -5);
    }

    private static void imageLeaves() {
        Edge.says(Edge.TERMS, "(PLANS stay; those that came since tell 0).");
        OnlyStrangers x = scene();
        x.image();
        x.plan(1, 7);
        x.plan(5, 8);
        x.row(2, 0, 21);
        x.row(2, 2, 22);
        Edge.with(x, "holds 1");
        Edge.feed(x, "hold");
        x.tape(1, 2, 3);
        x.item(1, 1, 77);
        x.act(1, 1, 3);
        x.undo();
        Edge.due("count(2)", x.count(2), 3);
        Edge.due("by(1, 1)", x.by(1, 1), 7);
        Edge.due("by(2, 0)", x.by(2, 0), 5);
        for (int part = 0; part < 3; part++) {
            Edge.due("row(2, " + part + ", 11)", x.row(2, part, 11), 0);
        }
        Edge.due("count(1): parishes stay", x.count(1), 2);
        Edge.due("count(4): the text stays", x.count(4), 4);
        Edge.due("read(1, 1): tapes stay", x.read(1, 1), 77);
        Edge.due("trace(0): the trace stays", x.trace(0), 20);
        x.undo();
        for (int part = 0; part < 3; part++) {
            Edge.due("row(2, " + part + ", 0) behind another undo", x.row(2, part, 12), 0);
        }
        x.image();
        x.row(2, 0, 13);
        x.undo();
        Edge.due("row(2, 0, 0), known to the image now", x.row(2, 0, 0), 12);
        Edge.due("parish() of the text that stayed", Edge.parish(x, "s 4"), 2);
    }

    private static void imageOfRows() {
        Edge.says(Edge.TERMS, "ROWS of TOLD PLANS");
        OnlyStrangers x = new OnlyStrangers();
        for (int p = 0; p < 10; p++) {
            x.plan(5, p);
            for (int part = 0; part < 3; part++) {
                x.row(p, part, p * 3 + part);
            }
        }
        x.image();
        for (int p = 0; p < 10; p++) {
            for (int part = 0; part < 3; part++) {
                x.row(p, part, 31);
            }
        }
        x.undo();
        for (int p = 0; p < 10; p++) {
            for (int part = 0; part < 3; part++) {
                Edge.due("row(" + p + ", " + part + ", 1)", x.row(p, part, 1), p * 3 + part);
            }
        }
    }

    private static void imageAnswers() {
        Edge.says(30, "STATE: there is none.");
        OnlyStrangers x = new OnlyStrangers();
        Edge.due("undo()", x.undo(), -3);
        x.person(0, 0);
        Edge.due("undo()", x.undo(), -3);
        Edge.due("count(0)", x.count(0), 1);
        for (int people = 0; people <= 5; people++) {
            OnlyStrangers y = Edge.crowd(people);
            Edge.due("image()", y.image(), people);
            Edge.due("person()", y.person(1, 1), people < 5 ? people : -4);
            Edge.due("undo()", y.undo(), people);
            Edge.due("undo() again", y.undo(), people);
            Edge.due("count(0)", y.count(0), people);
            Edge.due("person()", y.person(1, 1), people < 5 ? people : -4);
            Edge.due("image()", y.image(), Math.min(5, people + 1));
            Edge.due("undo() of the newer image", y.undo(), Math.min(5, people + 1));
        }
        OnlyStrangers z = new OnlyStrangers();
        z.image();
        Edge.with(z, "holds 7");
        Edge.due("undo() to no parish", z.undo(), 0);
        Edge.due("told(0) without a parish", z.told(0), 2);
    }

    // ---- judging

    private static void tell(OnlyStrangers x, int tape, String row) {
        x.tape(tape, 4, row.length());
        for (int k = 0; k < row.length(); k++) {
            x.item(tape, k, row.charAt(k) - '0');
        }
    }

    private static void judged() {
        Edge.says(Edge.TERMS, "SHORES told by a row of booleans (true: 1), from a place on, PERSON by PERSON, are JUDGED against RUN of a PLAN: the first of whom it is otherwise; -5: none,");
        Edge.says(28, "JUDGED from place i of a TAPE on, behind RUN of a PLAN for n CROSSINGS (0 .. 40).");
        OnlyStrangers x = Edge.with(Edge.people("01", "11", "01", "10", "01"), "holds 2");
        x.plan(1, 0);
        for (int n = 0; n <= 40; n += n < 4 ? 1 : 9) {
            int across = x.run(0, n, 1);
            StringBuilder row = new StringBuilder("01");
            for (int p = 0; p < 5; p++) {
                row.append(across >> p & 1);
            }
            tell(x, 3, row.toString());
            Edge.due("judge(3, 2, 0, " + n + ")", x.judge(3, 2, 0, n), -5);
            for (int p = 4; p >= 0; p--) {
                x.item(3, 2 + p, 1 - (across >> p & 1));
                Edge.due("judge(3, 2, 0, " + n + "), otherwise of " + p, x.judge(3, 2, 0, n), p);
            }
        }
        Edge.due("told(4)", x.told(4), 0);
        OnlyStrangers y = Edge.people("11");
        y.plan(0, 0);
        y.tape(0, 4, 1);
        y.item(0, 0, -8);
        Edge.due("judge() of any number but 0", y.judge(0, 0, 0, 40), -5);
        tell(y, 0, "10000");
        Edge.due("judge() of a longer row", y.judge(0, 0, 0, 40), -5);
        tell(y, 0, "000000000000000000000000000000000000000000000000000000000001");
        Edge.due("judge() of the last place", y.judge(0, 59, 0, 40), -5);
        Edge.due("judge() of the place ahead", y.judge(0, 58, 0, 40), 0);
        Edge.due("judge() of the place behind", y.judge(0, 60, 0, 40), 100);
    }

    private static void judgedNobody() {
        Edge.says(Edge.TERMS, "or there is nobody to look at (also if the TAPE holds nothing);");
        OnlyStrangers x = new OnlyStrangers();
        x.plan(0, 0);
        x.tape(1, 4, 0);
        x.tape(2, 4, 3);
        for (int tape = 0; tape < 4; tape++) {
            for (int i : new int[] {0, 1, 2, 3, 60, FAR}) {
                Edge.due("judge(" + tape + ", " + i + ", 0, 3) with nobody", x.judge(tape, i, 0, 3), -5);
            }
            Edge.due("judge(" + tape + ", -1, 0, 0) with nobody", x.judge(tape, -1, 0, 0), -5);
        }
    }

    private static void judgedTooShort() {
        Edge.says(Edge.TERMS, "100 and how many were looked at, if the row ends ahead of that (or the place is below 0, or the TAPE holds nothing).");
        OnlyStrangers x = Edge.people("00", "10", "00", "10", "10");
        x.plan(0, 0);
        String whole = "01011";
        for (int length = 0; length < 5; length++) {
            tell(x, 0, whole.substring(0, length));
            Edge.due("judge(0, 0, 0, 0) of " + length, x.judge(0, 0, 0, 0), 100 + length);
            tell(x, 0, "110" + whole.substring(0, length));
            Edge.due("judge(0, 3, 0, 0) of " + length, x.judge(0, 3, 0, 0), 100 + length);
        }
        tell(x, 0, "0111");
        Edge.due("judge() of a short row that is otherwise ahead of its end", x.judge(0, 0, 0, 0), 2);
        tell(x, 0, whole);
        Edge.due("judge(0, 0, 0, 0)", x.judge(0, 0, 0, 0), -5);
        for (int i : new int[] {5, 6, 60, FAR, FAR - 3, -1, -5, FAR_BELOW}) {
            Edge.due("judge(0, " + i + ", 0, 0)", x.judge(0, i, 0, 0), 100);
        }
        for (int i : new int[] {0, 1, FAR, -1, FAR_BELOW}) {
            Edge.due("judge(1, " + i + ", 0, 0) of nothing", x.judge(1, i, 0, 0), 100);
        }
        x.tape(0, -1, 0);
        Edge.due("judge(0, 0, 0, 0) of what holds nothing any more", x.judge(0, 0, 0, 0), 100);
    }

    private static void judgeRefuses() {
        Edge.says(28, "NONE: tape, plan; BAD; CAST: it is no row of booleans.");
        OnlyStrangers x = Edge.crowd(1);
        x.plan(0, 0);
        tell(x, 4, "0");
        for (int sort = 0; sort < 4; sort++) {
            x.tape(sort, sort, 3);
        }
        for (int no : NO_TAPES) {
            Edge.due("judge(" + no + ", 0, 0, 41): NONE comes first", x.judge(no, 0, 0, 41), -1);
        }
        for (int no : new int[] {-1, 1, 10, FAR, FAR_BELOW}) {
            Edge.due("judge(0, 0, " + no + ", 41): NONE comes first", x.judge(0, 0, no, 41), -1);
        }
        for (int no : new int[] {-1, 41, FAR, FAR_BELOW}) {
            for (int tape = 0; tape < 6; tape++) {
                Edge.due("judge(" + tape + ", 0, 0, " + no + "): BAD comes first", x.judge(tape, 0, 0, no), -2);
            }
        }
        for (int sort = 0; sort < 4; sort++) {
            for (int i : new int[] {0, 2, 3, -1, FAR}) {
                Edge.due("judge(" + sort + ", " + i + ", 0, 0)", x.judge(sort, i, 0, 0), -12);
            }
            Edge.due("judge(" + sort + ", 0, 0, 40)", x.judge(sort, 0, 0, 40), -12);
        }
        Edge.due("judge(4, 0, 0, 40)", x.judge(4, 0, 0, 40), -5);
        Edge.due("judge(5, 0, 0, 40)", x.judge(5, 0, 0, 40), 100);
    }

    private static void taken() {
        Edge.says(33, "A PLAN taken for one of KIND k (0 .. 6), or one under that: its KIND.");
        OnlyStrangers x = new OnlyStrangers();
        String[] under = {"0123456", "14", "25", "36", "4", "5", "6"};
        for (int p = 0; p < 7; p++) {
            x.plan(6 - p, p);
        }
        for (int p = 0; p < 7; p++) {
            for (int k = 0; k < 7; k++) {
                boolean is = under[k].indexOf('0' + 6 - p) >= 0;
                Edge.due("taken(" + p + ", " + k + ")", x.taken(p, k), is ? 6 - p : -12);
            }
        }
        Edge.says(33, "BAD: k; NOTHING: no such PLAN; CAST.");
        for (int no : new int[] {-1, 7, FAR, FAR_BELOW}) {
            Edge.due("taken(0, " + no + ")", x.taken(0, no), -2);
            Edge.due("taken(7, " + no + "): BAD comes first", x.taken(7, no), -2);
        }
        for (int no : new int[] {-1, 7, 9, 10, FAR, FAR_BELOW}) {
            for (int k = 0; k < 7; k++) {
                Edge.due("taken(" + no + ", " + k + ")", x.taken(no, k), -11);
            }
        }
        Edge.says(Edge.TERMS, "The host's refusals: NOTHING (-11): nothing is there; CAST (-12): another sort or KIND;");
        Edge.due("taken(6, 1)", x.taken(6, 1), -12);
        Edge.due("item(0, 0, 0)", x.item(0, 0, 0), -11);
    }

    private static void counts() {
        Edge.says(34, "How many: 0 PEOPLE, 1 PARISHES, 2 PLANS, 3 GROUPS of the BOOK, 4 bytes of THE TEXT, 5 bodies that ran in the latest act() (all, kept or not).");
        OnlyStrangers x = new OnlyStrangers();
        for (int k = 0; k < 13; k++) {
            x.person(0, 0);
            Edge.due("count(0)", x.count(0), Math.min(5, k + 1));
            Edge.parish(x, "least 1");
            Edge.due("count(1)", x.count(1), Math.min(6, k + 1));
            x.plan(6, 0);
            Edge.due("count(2)", x.count(2), Math.min(10, k + 1));
            x.book(1);
            Edge.due("count(3)", x.count(3), Math.min(12, k + 1));
            Edge.due("count(4)", x.count(4), k < 6 ? 0 : 7 * (k - 5));
        }
        for (int k = 0; k < 60; k++) {
            x.feed('x');
            Edge.due("count(4)", x.count(4), Math.min(100, 50 + k));
        }
        int[] many = {2, 5, 12};
        for (int act = 0; act < 3; act++) {
            x.act(9, act, 1);
            Edge.due("count(5)", x.count(5), many[act]);
        }
        Edge.says(34, "BAD.");
        for (int no : new int[] {-1, 6, 7, FAR, FAR_BELOW}) {
            Edge.due("count(" + no + ")", x.count(no), -2);
        }
    }

    // ---- tapes

    private static void tapesAtFirst() {
        Edge.says(Edge.TERMS, "TAPES 0 .. 5 hold nothing (at first), or a row of 0 bytes, 1 shorts, 2 ints, 3 longs, 4 booleans (items 0, 1).");
        OnlyStrangers x = new OnlyStrangers();
        long v = 0x123456789abcdef0L;
        long[] due = {-16, (short) 0xdef0, 0x9abcdef0, v, 1};
        for (int tape = 0; tape < 6; tape++) {
            Edge.due("read(" + tape + ", 0) at first", x.read(tape, 0), NO);
            Edge.due("item(" + tape + ", 0, 0) at first", x.item(tape, 0, 0), -11);
        }
        for (int tape = 0; tape < 6; tape++) {
            for (int sort = 0; sort < 5; sort++) {
                Edge.due("tape(" + tape + ", " + sort + ", 2)", x.tape(tape, sort, 2), 1);
                Edge.due("item(" + tape + ", 1, v)", x.item(tape, 1, v), 1);
                Edge.due("read(" + tape + ", 1) of sort " + sort, x.read(tape, 1), due[sort]);
                Edge.due("read(" + tape + ", 0) of sort " + sort, x.read(tape, 0), 0);
            }
            x.tape(tape, 4, 2);
            for (long any : new long[] {0, 1, 2, -1, 256, 1L << 32, Long.MIN_VALUE, 0}) {
                x.item(tape, 0, any);
                Edge.due("read(" + tape + ", 0), whether " + any + " is not 0", x.read(tape, 0), any == 0 ? 0 : 1);
            }
        }
        for (int no : NO_TAPES) {
            Edge.due("tape(" + no + ", 0, 1)", x.tape(no, 0, 1), -1);
        }
    }

    private static void tapes() {
        Edge.says(35, "A TAPE becomes a row of n (0 .. 60) of a sort, all 0, or holds nothing (sort -1: n does not matter): 1.");
        OnlyStrangers x = new OnlyStrangers();
        for (int sort = 0; sort < 5; sort++) {
            for (int n : new int[] {60, 1, 59, 0}) {
                Edge.due("tape(2, " + sort + ", " + n + ")", x.tape(2, sort, n), 1);
                Edge.due("read(2, " + (n - 1) + ")", x.read(2, n - 1), n > 0 ? 0 : NO);
                Edge.due("read(2, " + n + ")", x.read(2, n), NO);
                Edge.due("item(2, " + (n - 1) + ", 1)", x.item(2, n - 1, 1), n > 0 ? 1 : -13);
                Edge.due("item(2, " + n + ", 1)", x.item(2, n, 1), -13);
            }
        }
        x.tape(2, 3, 60);
        for (int i = 0; i < 60; i++) {
            x.item(2, i, i + 1);
        }
        x.tape(2, 3, 60);
        for (int i = 0; i < 60; i++) {
            Edge.due("read(2, " + i + ") of a new row", x.read(2, i), 0);
        }
        for (int n : new int[] {0, 60, 61, -1, FAR, FAR_BELOW}) {
            x.tape(2, 3, 5);
            Edge.due("tape(2, -1, " + n + ")", x.tape(2, -1, n), 1);
            Edge.due("read(2, 0)", x.read(2, 0), NO);
            Edge.due("item(2, 0, 0)", x.item(2, 0, 0), -11);
            Edge.due("tape(2, -1, " + n + ") again", x.tape(2, -1, n), 1);
        }
        Edge.says(35, "NONE: tape; BAD: sort, n above 60; SIZE.");
        Edge.says(Edge.TERMS, "SIZE (-14): a size below 0.");
        OnlyStrangers y = new OnlyStrangers();
        y.tape(3, 2, 4);
        y.item(3, 3, 9);
        for (int no : NO_TAPES) {
            Edge.due("tape(" + no + ", 5, 61): NONE comes first", y.tape(no, 5, 61), -1);
            Edge.due("tape(" + no + ", 0, -1): NONE comes first", y.tape(no, 0, -1), -1);
            Edge.due("tape(" + no + ", -1, 0): NONE comes first", y.tape(no, -1, 0), -1);
        }
        for (int no : new int[] {-2, 5, 6, FAR, FAR_BELOW}) {
            for (int n : new int[] {0, 60, 61, -1}) {
                Edge.due("tape(3, " + no + ", " + n + "): BAD comes first", y.tape(3, no, n), -2);
            }
        }
        for (int sort = 0; sort < 5; sort++) {
            for (int n : new int[] {61, 62, 100, FAR}) {
                Edge.due("tape(3, " + sort + ", " + n + ")", y.tape(3, sort, n), -2);
            }
            for (int n : new int[] {-1, -2, FAR_BELOW}) {
                Edge.due("tape(3, " + sort + ", " + n + ")", y.tape(3, sort, n), -14);
            }
        }
        Edge.due("read(3, 3): as it was", y.read(3, 3), 9);
        Edge.due("read(3, 4): as it was", y.read(3, 4), NO);
    }

    private static void items() {
        Edge.says(36, "NONE; NOTHING; PLACE.");
        Edge.says(Edge.TERMS, "PLACE (-13): no such place;");
        OnlyStrangers x = new OnlyStrangers();
        x.tape(0, 2, 3);
        x.tape(1, 0, 0);
        for (int no : NO_TAPES) {
            for (int i : new int[] {0, -1, 60}) {
                Edge.due("item(" + no + ", " + i + ", 0): NONE comes first", x.item(no, i, 0), -1);
            }
        }
        for (int i : new int[] {0, -1, 60, FAR, FAR_BELOW}) {
            Edge.due("item(2, " + i + ", 0): NOTHING comes first", x.item(2, i, 0), -11);
        }
        for (int no : new int[] {-1, 3, 59, 60, FAR, FAR_BELOW}) {
            Edge.due("item(0, " + no + ", 1)", x.item(0, no, 1), -13);
            Edge.due("item(1, " + no + ", 1) of an empty row", x.item(1, no, 1), -13);
        }
        Edge.due("item(1, 0, 1) of an empty row", x.item(1, 0, 1), -13);
        for (int i = 0; i < 3; i++) {
            Edge.due("item(0, " + i + ", 5)", x.item(0, i, 5), 1);
        }
        x.tape(0, -1, 0);
        Edge.due("item(0, 0, 5) of what holds nothing any more", x.item(0, 0, 5), -11);
    }

    private static void itemsWrap() {
        Edge.says(36, "Item i of a TAPE becomes v (its lowest bits, as many as an item has; booleans: whether v is not 0): 1.");
        long[] told = {0, 1, -1, 2, 127, 128, 129, -128, -129, 255, 256, 257, 32767, 32768, 65535, 65536, -32768, -32769,
            FAR, FAR + 1L, FAR_BELOW, FAR_BELOW - 1L, 1L << 32, (1L << 32) + 1, Long.MAX_VALUE, Long.MIN_VALUE + 1, Long.MIN_VALUE};
        for (int sort = 0; sort < 5; sort++) {
            OnlyStrangers x = new OnlyStrangers();
            x.tape(5, sort, 3);
            for (long v : told) {
                int bits = sort == 0 ? 8 : sort == 1 ? 16 : sort == 2 ? 32 : 64;
                long due = sort == 4 ? (v == 0 ? 0 : 1) : v << 64 - bits >> 64 - bits;
                Edge.due("item(5, 1, " + v + ")", x.item(5, 1, v), 1);
                Edge.due("read(5, 1) of " + v + ", sort " + sort, x.read(5, 1), due);
                Edge.due("read(5, 0)", x.read(5, 0), 0);
                Edge.due("read(5, 2)", x.read(5, 2), 0);
            }
        }
    }

    private static void read() {
        Edge.says(37, "Item i of a TAPE. NO: no such TAPE, nothing there, no such place.");
        OnlyStrangers x = new OnlyStrangers();
        x.tape(0, 3, 60);
        x.tape(1, 3, 0);
        for (int i = 0; i < 60; i++) {
            x.item(0, i, i * 1000000007L);
        }
        for (int i = 0; i < 60; i++) {
            Edge.due("read(0, " + i + ")", x.read(0, i), i * 1000000007L);
        }
        for (int no : NO_TAPES) {
            Edge.due("read(" + no + ", 0)", x.read(no, 0), NO);
        }
        for (int no : new int[] {-1, 60, 61, FAR, FAR_BELOW}) {
            Edge.due("read(0, " + no + ")", x.read(0, no), NO);
            Edge.due("read(1, " + no + ") of an empty row", x.read(1, no), NO);
            Edge.due("read(2, " + no + ") of nothing", x.read(2, no), NO);
        }
        Edge.due("read(1, 0) of an empty row", x.read(1, 0), NO);
        Edge.due("read(2, 0) of nothing", x.read(2, 0), NO);
        x.item(0, 0, Long.MIN_VALUE);
        Edge.due("read(0, 0) of the least long", x.read(0, 0), Long.MIN_VALUE);
    }

    private static OnlyStrangers filled(int sort) {
        OnlyStrangers x = new OnlyStrangers();
        for (int tape = 0; tape < 2; tape++) {
            x.tape(tape, sort, 6);
            for (int i = 0; i < 6; i++) {
                x.item(tape, i, sort == 4 ? (i * (tape + 3)) % 7 % 2 : tape * 10 + i);
            }
        }
        return x;
    }

    private static void shifts() {
        Edge.says(38, "n items of a TAPE from i on come to another one (or the same) from j on,");
        for (int sort = 0; sort < 5; sort++) {
            for (int n = 0; n <= 6; n++) {
                for (int i = 0; i + n <= 6; i += 2) {
                    for (int j = 0; j + n <= 6; j++) {
                        OnlyStrangers x = filled(sort);
                        OnlyStrangers before = filled(sort);
                        Edge.due("shift(0, " + i + ", 1, " + j + ", " + n + ")", x.shift(0, i, 1, j, n), n);
                        for (int k = 0; k < 6; k++) {
                            boolean came = k >= j && k < j + n;
                            Edge.due("read(0, " + k + ")", x.read(0, k), before.read(0, k));
                            Edge.due("read(1, " + k + ")", x.read(1, k), came ? before.read(0, i + k - j) : before.read(1, k));
                        }
                    }
                }
            }
        }
    }

    private static void shiftsOverlapping() {
        Edge.says(38, "as they all were before: n.");
        for (int n = 0; n <= 6; n++) {
            for (int i = 0; i + n <= 6; i++) {
                for (int j = 0; j + n <= 6; j++) {
                    OnlyStrangers x = filled(2);
                    Edge.due("shift(1, " + i + ", 1, " + j + ", " + n + ")", x.shift(1, i, 1, j, n), n);
                    for (int k = 0; k < 6; k++) {
                        boolean came = k >= j && k < j + n;
                        Edge.due("read(1, " + k + ")", x.read(1, k), 10 + (came ? i + k - j : k));
                        Edge.due("read(0, " + k + ")", x.read(0, k), k);
                    }
                }
            }
        }
    }

    private static void shiftRefuses() {
        Edge.says(38, "NONE: tapes; NOTHING; CAST: of unlike sorts; PLACE: n, i or j is below 0, or beyond either's end.");
        OnlyStrangers x = filled(2);
        x.tape(2, 2, 3);
        x.tape(3, 3, 6);
        for (int no : NO_TAPES) {
            Edge.due("shift(" + no + ", 0, 0, 0, 1)", x.shift(no, 0, 0, 0, 1), -1);
            Edge.due("shift(0, 0, " + no + ", 0, 1)", x.shift(0, 0, no, 0, 1), -1);
            Edge.due("shift(4, -1, " + no + ", 0, 1): NONE comes first", x.shift(4, -1, no, 0, 1), -1);
        }
        for (int other : new int[] {0, 3, 4, 5}) {
            Edge.due("shift(4, -1, " + other + ", 0, 1): NOTHING comes first", x.shift(4, -1, other, 0, 1), -11);
            Edge.due("shift(" + other + ", 0, 4, 0, -1): NOTHING comes first", x.shift(other, 0, 4, 0, -1), -11);
        }
        for (int sort = 0; sort < 5; sort++) {
            for (int like = 0; like < 5; like++) {
                OnlyStrangers y = new OnlyStrangers();
                y.tape(0, sort, 2);
                y.tape(1, like, 2);
                Edge.due("shift() of sort " + sort + " to " + like, y.shift(0, 0, 1, 0, 1), sort == like ? 1 : -12);
                Edge.due("shift() of sort " + sort + " to " + like + ", n -1", y.shift(0, 0, 1, 0, -1), sort == like ? -13 : -12);
            }
        }
        int[][] beyond = {{-1, 0, 1}, {0, -1, 1}, {0, 0, -1}, {6, 0, 1}, {0, 3, 1}, {7, 0, 0}, {0, 4, 0}, {4, 0, 3}, {0, 1, 3},
            {0, 0, 4}, {FAR, 0, 1}, {0, FAR, 1}, {0, 0, FAR}, {1, 1, FAR}, {FAR, FAR, FAR}, {FAR_BELOW, 0, 1}, {0, FAR_BELOW, 1},
            {0, 0, FAR_BELOW}, {6, 3, FAR}, {2, 2, FAR - 1}};
        for (int[] each : beyond) {
            String call = "shift(0, " + each[0] + ", 2, " + each[1] + ", " + each[2] + ")";
            Edge.due(call, x.shift(0, each[0], 2, each[1], each[2]), -13);
        }
        Edge.due("shift(0, 6, 2, 3, 0) at both ends", x.shift(0, 6, 2, 3, 0), 0);
        Edge.due("shift(0, 3, 2, 0, 3) up to both ends", x.shift(0, 3, 2, 0, 3), 3);
        for (int k = 0; k < 6; k++) {
            Edge.due("read(0, " + k + ")", x.read(0, k), k);
            Edge.due("read(2, " + k + ")", x.read(2, k), k < 3 ? 3 + k : NO);
        }
    }
}
