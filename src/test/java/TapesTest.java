/** Promises 28 to 38: judging, the image, acts, tapes. */
public final class TapesTest {
    public static void main(String[] args) {
        judge();
        judgeRefuses();
        image();
        imageOfRows();
        acts();
        actsRefuse();
        taken();
        counts();
        tapes();
        items();
        shifts();
        Check.end("TapesTest", 28, 38);
    }

    private static void tell(OnlyStrangers x, int tape, String row) {
        x.tape(tape, 4, row.length());
        for (int k = 0; k < row.length(); k++) {
            x.item(tape, k, row.charAt(k) - '0');
        }
    }

    private static void judge() {
        OnlyStrangers x = Check.crowd(4);
        x.plan(1, 0);
        // behind one crossing 0 and 1 are across, behind two 1 alone
        tell(x, 2, "011000");
        Check.due(28, "judge(2, 1, 0, 1)", x.judge(2, 1, 0, 1), -5);
        Check.due(28, "judge(2, 1, 0, 2)", x.judge(2, 1, 0, 2), 0);
        Check.due(28, "judge(2, 0, 0, 2)", x.judge(2, 0, 0, 2), 2);
        Check.due(28, "judge(2, 2, 0, 1)", x.judge(2, 2, 0, 1), 1);
        Check.due(28, "judge(2, 3, 0, 0)", x.judge(2, 3, 0, 0), 103);
        Check.due(28, "judge(2, 5, 0, 0)", x.judge(2, 5, 0, 0), 101);
        Check.due(28, "judge(2, 5, 0, 1)", x.judge(2, 5, 0, 1), 0);
        Check.due(28, "judge(2, 6, 0, 0)", x.judge(2, 6, 0, 0), 100);
        Check.due(28, "judge(2, 7, 0, 0)", x.judge(2, 7, 0, 0), 100);
        Check.due(28, "judge(2, MAX, 0, 0)", x.judge(2, Integer.MAX_VALUE, 0, 0), 100);
        Check.due(28, "judge(2, -1, 0, 0)", x.judge(2, -1, 0, 0), 100);
        Check.due(28, "judge(3, 0, 0, 40)", x.judge(3, 0, 0, 40), 100);
        Check.due(28, "told(4)", x.told(4), 0);
    }

    private static void judgeRefuses() {
        OnlyStrangers x = new OnlyStrangers();
        x.plan(0, 0);
        Check.due(28, "judge() with nobody and nothing", x.judge(0, 0, 0, 0), -5);
        Check.due(28, "judge() with nobody", x.judge(0, -1, 0, 0), -5);
        x.tape(0, 3, 5);
        Check.due(28, "judge(6, 0, 0, 41)", x.judge(6, 0, 0, 41), -1);
        Check.due(28, "judge(-1, 0, 0, 41)", x.judge(-1, 0, 0, 41), -1);
        Check.due(28, "judge(0, 0, 1, 41)", x.judge(0, 0, 1, 41), -1);
        Check.due(28, "judge(0, 0, 0, 41)", x.judge(0, 0, 0, 41), -2);
        Check.due(28, "judge(0, 0, 0, -1)", x.judge(0, 0, 0, -1), -2);
        Check.due(28, "judge(0, 0, 0, 40)", x.judge(0, 0, 0, 40), -12);
        x.tape(0, 4, 0);
        Check.due(28, "judge() with nobody", x.judge(0, 0, 0, 0), -5);
        x.person(1, 1);
        Check.due(28, "judge() of an empty row", x.judge(0, 0, 0, 0), 100);
    }

    private static void image() {
        OnlyStrangers x = Check.crowd(3);
        Check.due(30, "undo()", x.undo(), -3);
        Check.parish(x, "holds 3;forget 5");
        x.meet(0, 1, true);
        x.cross(4);
        x.book(3);
        Check.due(29, "image()", x.image(), 3);
        x.person(1, 0);
        x.set(0, 0, 1);
        x.set(1, 1, 0);
        x.boat(0);
        x.cross(4);
        x.meet(1, 2, true);
        x.meet(0, 1, false);
        x.book(5);
        x.book(6);
        Check.parish(x, "holds 1");
        x.feed('h');
        x.tape(0, 2, 3);
        x.plan(2, 2);
        x.act(0, 0, 3);
        for (int k = 0; k < 2; k++) {
            Check.due(30, "undo()", x.undo(), 3);
            Check.due(30, "count(0)", x.count(0), 3);
            Check.due(30, "of(0, 0)", x.of(0, 0), 0);
            Check.due(30, "of(2, 0)", x.of(2, 0), 1);
            Check.due(30, "of(1, 1)", x.of(1, 1), 1);
            Check.due(30, "told(0)", x.told(0), 3);
            Check.due(30, "told(2)", x.told(2), 5);
            Check.due(30, "told(3)", x.told(3), 1);
            Check.due(30, "told(4)", x.told(4), 1);
            Check.due(30, "told(5)", x.told(5), 1);
            Check.due(30, "pair(0, 1, 2)", x.pair(0, 1, 2), 1);
            Check.due(30, "pair(1, 2, 2)", x.pair(1, 2, 2), -5);
            Check.due(30, "count(1)", x.count(1), 2);
            Check.due(30, "count(2)", x.count(2), 1);
            Check.due(30, "count(3)", x.count(3), 1);
            Check.due(30, "count(4)", x.count(4), 1);
            Check.due(30, "count(5)", x.count(5), 2);
            Check.due(30, "trace(0)", x.trace(0), 30);
            Check.due(30, "read(0, 2)", x.read(0, 2), 0);
            x.cross(4);
            x.book(-1);
            x.book(1);
        }
        Check.due(29, "image()", x.image(), 3);
        Check.due(30, "undo()", x.undo(), 3);
        Check.due(30, "told(4)", x.told(4), 2);
        x.book(-1);
        x.book(1);
        x.book(2);
        Check.due(30, "readBook()", x.readBook(), 1);
        x.image();
        x.book(-1);
        x.book(4);
        x.book(4);
        Check.due(30, "readBook()", x.readBook(), 2);
        x.undo();
        Check.due(30, "readBook()", x.readBook(), 1);
        Check.due(30, "person(0, 0)", x.person(0, 0), 3);
        Check.due(30, "pair(3, 0, 2)", x.pair(3, 0, 2), -5);
        OnlyStrangers y = new OnlyStrangers();
        Check.due(29, "image() of nobody", y.image(), 0);
        Check.parish(y, "holds 5");
        y.person(0, 0);
        Check.due(30, "undo()", y.undo(), 0);
        Check.due(30, "told(0)", y.told(0), 2);
        Check.due(30, "parish()", Check.parish(y, "holds 4"), 1);
    }

    private static void imageOfRows() {
        OnlyStrangers x = new OnlyStrangers();
        x.plan(5, 0);
        x.row(0, 0, 1);
        x.row(0, 2, 9);
        x.image();
        x.row(0, 0, 2);
        x.row(0, 1, 3);
        x.plan(5, 1);
        x.row(1, 1, 4);
        x.undo();
        Check.due(30, "row(0, 0, 5)", x.row(0, 0, 5), 1);
        Check.due(30, "row(0, 1, 5)", x.row(0, 1, 5), 0);
        Check.due(30, "row(0, 2, 5)", x.row(0, 2, 5), 9);
        Check.due(30, "row(1, 1, 6)", x.row(1, 1, 6), 0);
        x.image();
        x.row(1, 1, 7);
        x.undo();
        Check.due(30, "row(1, 1, 0)", x.row(1, 1, 0), 6);
        Check.due(30, "row(0, 0, 0)", x.row(0, 0, 0), 5);
    }

    private static void act(OnlyStrangers x, int plan, int act, int with, int due, int... bodies) {
        String call = "act(" + plan + ", " + act + ", " + with + ")";
        Check.due(31, call, x.act(plan, act, with), due);
        Check.due(32, "count(5) behind " + call, x.count(5), bodies.length);
        for (int i = 0; i < bodies.length; i++) {
            Check.due(32, "trace(" + i + ") behind " + call, x.trace(i), bodies[i]);
        }
        Check.due(32, "trace() at the end behind " + call, x.trace(bodies.length), -1);
    }

    private static void acts() {
        OnlyStrangers x = new OnlyStrangers();
        for (int kind = 0; kind < 7; kind++) {
            x.plan(kind, kind + 3);
        }
        act(x, 0, 0, 5, 5, 10);
        act(x, 0, 1, 5, 2, 11, 10);
        act(x, 0, 2, 5, 4, 12, 11, 10);
        act(x, 1, 0, 5, 6, 10);
        act(x, 1, 1, 5, 2 ^ 6, 20, 11, 10);
        act(x, 1, 2, 5, 8, 12, 20, 11, 10);
        act(x, 2, 0, 5, 17, 30, 10);
        act(x, 2, 1, 5, 12, 11, 30, 10);
        act(x, 2, 2, 5, 24, 12, 11, 30, 10);
        act(x, 3, 0, 5, 8, 10);
        act(x, 3, 1, 5, 2, 11, 10);
        act(x, 3, 2, 5, 4 + 1 + 3 - 6, 40, 12, 11, 10, 11, 10);
        act(x, 4, 0, 5, -9, 50, 10);
        act(x, 4, 1, 5, -10 - 7 ^ 6, 51, 20, 11, 50, 10);
        act(x, 4, 2, 5, (-10 - 7 ^ 6) * 2, 12, 51, 20, 11, 50, 10);
        act(x, 5, 0, 5, 20, 30, 10);
        act(x, 5, 1, 5, 12, 11, 30, 10);
        act(x, 5, 2, 5, -6, 60, 12, 11, 30, 10);
        act(x, 6, 0, 5, 11 ^ 9, 71, 10);
        act(x, 6, 1, 5, (11 ^ 9) - 9 + 8, 70, 11, 71, 10, 10);
        int ofOne = (7 ^ 9) - 9 + 8;
        act(x, 6, 2, 5, ((11 ^ 9) - 9 + 8) * 2 + ofOne, 40, 12, 70, 11, 71, 10, 10, 70, 11, 71, 10, 10);
        act(x, 1, 0, Integer.MAX_VALUE, Integer.MIN_VALUE, 10);
        act(x, 2, 0, Integer.MAX_VALUE, Integer.MAX_VALUE * 3 + 2, 30, 10);
        act(x, 0, 2, Integer.MIN_VALUE, -6, 12, 11, 10);
    }

    private static void actsRefuse() {
        OnlyStrangers x = new OnlyStrangers();
        x.plan(0, 0);
        int[][] calls = {{1, 0}, {-1, 0}, {0, 3}, {0, -1}};
        for (int[] call : calls) {
            x.act(0, 2, 1);
            Check.due(32, "trace(0)", x.trace(0), 12);
            Check.due(32, "trace(-1)", x.trace(-1), -1);
            Check.due(32, "trace(20)", x.trace(20), -1);
            Check.due(31, "act(" + call[0] + ", " + call[1] + ", 7)", x.act(call[0], call[1], 7), 0);
            Check.due(31, "count(5)", x.count(5), 0);
            Check.due(32, "trace(0)", x.trace(0), -1);
        }
    }

    private static void taken() {
        OnlyStrangers x = new OnlyStrangers();
        String[] above = {"0", "01", "02", "03", "014", "025", "036"};
        for (int kind = 0; kind < 7; kind++) {
            x.plan(kind, 0);
            for (int k = 0; k < 7; k++) {
                int due = above[kind].indexOf('0' + k) >= 0 ? kind : -12;
                Check.due(33, "taken(" + kind + ", " + k + ")", x.taken(kind, k), due);
            }
        }
        Check.due(33, "taken(9, 7)", x.taken(9, 7), -2);
        Check.due(33, "taken(0, -1)", x.taken(0, -1), -2);
        Check.due(33, "taken(7, 0)", x.taken(7, 0), -11);
        Check.due(33, "taken(-1, 0)", x.taken(-1, 0), -11);
    }

    private static void counts() {
        OnlyStrangers x = Check.crowd(2);
        Check.parish(x, "holds 2");
        Check.parish(x, "holds 3");
        Check.parish(x, "holds 4");
        x.plan(0, 0);
        x.book(1);
        x.book(1);
        x.book(1);
        x.book(1);
        x.feed(1);
        x.feed(2);
        x.feed(3);
        x.feed(4);
        x.feed(5);
        x.act(0, 1, 0);
        int[] due = {2, 3, 1, 4, 5, 2};
        for (int what = 0; what < due.length; what++) {
            Check.due(34, "count(" + what + ")", x.count(what), due[what]);
        }
        Check.due(34, "count(6)", x.count(6), -2);
        Check.due(34, "count(-1)", x.count(-1), -2);
    }

    private static void tapes() {
        OnlyStrangers x = new OnlyStrangers();
        Check.due(35, "tape(6, 9, 99)", x.tape(6, 9, 99), -1);
        Check.due(35, "tape(-1, 0, 0)", x.tape(-1, 0, 0), -1);
        Check.due(35, "tape(0, 5, 0)", x.tape(0, 5, 0), -2);
        Check.due(35, "tape(0, -2, 0)", x.tape(0, -2, 0), -2);
        Check.due(35, "tape(0, 5, -1)", x.tape(0, 5, -1), -2);
        Check.due(35, "tape(0, 4, 61)", x.tape(0, 4, 61), -2);
        Check.due(35, "tape(0, 4, -1)", x.tape(0, 4, -1), -14);
        Check.due(35, "tape(0, 4, MIN)", x.tape(0, 4, Integer.MIN_VALUE), -14);
        Check.due(35, "item(0, 0, 0)", x.item(0, 0, 0), -11);
        for (int sort = 0; sort < 5; sort++) {
            Check.due(35, "tape(1, " + sort + ", 60)", x.tape(1, sort, 60), 1);
            Check.due(37, "read(1, 59)", x.read(1, 59), 0);
            Check.due(36, "item(1, 59, -1)", x.item(1, 59, -1), 1);
            Check.due(37, "read(1, 60)", x.read(1, 60), OnlyStrangers.NO);
        }
        Check.due(35, "tape(1, 2, -1)", x.tape(1, 2, -1), -14);
        Check.due(35, "read(1, 59) as before", x.read(1, 59), 1);
        Check.due(35, "tape(1, -1, 99)", x.tape(1, -1, 99), 1);
        Check.due(35, "tape(1, -1, -99)", x.tape(1, -1, -99), 1);
        Check.due(37, "read(1, 0)", x.read(1, 0), OnlyStrangers.NO);
        Check.due(35, "tape(1, 0, 0)", x.tape(1, 0, 0), 1);
        Check.due(36, "item(1, 0, 0)", x.item(1, 0, 0), -13);
        Check.due(37, "read(1, 0)", x.read(1, 0), OnlyStrangers.NO);
    }

    private static void items() {
        OnlyStrangers x = new OnlyStrangers();
        long[] told = {0, 1, 2, -1, 127, 128, 255, 256, 32768, 65535, 65536, 1L << 31, 1L << 32, 1L << 40, Long.MIN_VALUE,
            Long.MAX_VALUE, -129, -40000};
        for (int sort = 0; sort < 5; sort++) {
            x.tape(sort, sort, 2);
            for (long v : told) {
                long[] due = {(byte) v, (short) v, (int) v, v, v == 0 ? 0 : 1};
                Check.due(36, "item(" + sort + ", 1, " + v + ")", x.item(sort, 1, v), 1);
                Check.due(37, "read(" + sort + ", 1) of " + v, x.read(sort, 1), due[sort]);
                Check.due(37, "read(" + sort + ", 0)", x.read(sort, 0), 0);
            }
            Check.due(36, "item(" + sort + ", 2, 1)", x.item(sort, 2, 1), -13);
            Check.due(36, "item(" + sort + ", -1, 1)", x.item(sort, -1, 1), -13);
            Check.due(37, "read(" + sort + ", 2)", x.read(sort, 2), OnlyStrangers.NO);
            Check.due(37, "read(" + sort + ", -1)", x.read(sort, -1), OnlyStrangers.NO);
        }
        Check.due(36, "item(6, -1, 1)", x.item(6, -1, 1), -1);
        Check.due(36, "item(-1, 0, 1)", x.item(-1, 0, 1), -1);
        Check.due(36, "item(5, -1, 1)", x.item(5, -1, 1), -11);
        Check.due(37, "read(6, 0)", x.read(6, 0), OnlyStrangers.NO);
        Check.due(37, "read(-1, 0)", x.read(-1, 0), OnlyStrangers.NO);
        Check.due(37, "read(5, 0)", x.read(5, 0), OnlyStrangers.NO);
    }

    private static void row(OnlyStrangers x, int tape, long... due) {
        for (int i = 0; i < due.length; i++) {
            Check.due(38, "read(" + tape + ", " + i + ")", x.read(tape, i), due[i]);
        }
    }

    private static void shifts() {
        OnlyStrangers x = new OnlyStrangers();
        x.tape(0, 2, 5);
        x.tape(1, 2, 3);
        x.tape(2, 3, 3);
        for (int i = 0; i < 5; i++) {
            x.item(0, i, i + 1);
        }
        Check.due(38, "shift(0, 1, 1, 0, 3)", x.shift(0, 1, 1, 0, 3), 3);
        row(x, 1, 2, 3, 4);
        Check.due(38, "shift(0, 0, 0, 1, 4)", x.shift(0, 0, 0, 1, 4), 4);
        row(x, 0, 1, 1, 2, 3, 4);
        Check.due(38, "shift(0, 1, 0, 0, 4)", x.shift(0, 1, 0, 0, 4), 4);
        row(x, 0, 1, 2, 3, 4, 4);
        Check.due(38, "shift(0, 5, 1, 3, 0)", x.shift(0, 5, 1, 3, 0), 0);
        Check.due(38, "shift(0, 6, 1, 0, 0)", x.shift(0, 6, 1, 0, 0), -13);
        Check.due(38, "shift(0, 0, 1, 4, 0)", x.shift(0, 0, 1, 4, 0), -13);
        Check.due(38, "shift(0, 2, 1, 0, 4)", x.shift(0, 2, 1, 0, 4), -13);
        Check.due(38, "shift(0, 0, 1, 1, 3)", x.shift(0, 0, 1, 1, 3), -13);
        Check.due(38, "shift(0, -1, 1, 0, 1)", x.shift(0, -1, 1, 0, 1), -13);
        Check.due(38, "shift(0, 0, 1, -1, 1)", x.shift(0, 0, 1, -1, 1), -13);
        Check.due(38, "shift(0, 0, 1, 0, -1)", x.shift(0, 0, 1, 0, -1), -13);
        Check.due(38, "shift(0, 1, 1, 1, MAX)", x.shift(0, 1, 1, 1, Integer.MAX_VALUE), -13);
        Check.due(38, "shift(0, MAX, 1, 0, 1)", x.shift(0, Integer.MAX_VALUE, 1, 0, 1), -13);
        Check.due(38, "shift(0, 0, 2, 0, -1)", x.shift(0, 0, 2, 0, -1), -12);
        Check.due(38, "shift(0, 0, 3, 0, -1)", x.shift(0, 0, 3, 0, -1), -11);
        Check.due(38, "shift(3, 0, 2, 0, -1)", x.shift(3, 0, 2, 0, -1), -11);
        Check.due(38, "shift(3, 0, 6, 0, 0)", x.shift(3, 0, 6, 0, 0), -1);
        Check.due(38, "shift(-1, 0, 0, 0, 0)", x.shift(-1, 0, 0, 0, 0), -1);
        row(x, 0, 1, 2, 3, 4, 4);
        row(x, 1, 2, 3, 4);
    }
}
