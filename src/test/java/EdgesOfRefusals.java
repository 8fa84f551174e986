import java.util.ArrayList;
import java.util.List;

/** Sentences of the Terms about refusals and about what is asked: they change nothing. */
final class EdgesOfRefusals {
    private static final int FAR = Integer.MAX_VALUE;
    private static final int FAR_BELOW = Integer.MIN_VALUE;

    /** A call on an object, and its answer. */
    interface Call {
        long on(OnlyStrangers x);
    }

    /** A way to make an object that is the same each time. */
    interface Scene {
        OnlyStrangers make();
    }

    private EdgesOfRefusals() {
    }

    static void all() {
        refusedChangesNothing();
        fullChangesNothing();
        refusedWithoutImage();
        askedChangesNothing();
        goesOnFromHowAllIs();
        theFirstNamed();
    }

    /** Something of all there is, with room for more. */
    private static OnlyStrangers busy() {
        OnlyStrangers x = Edge.with(Edge.people("01", "10", "00", "11"), "holds 3;forget 4;bar a=0&b=3;worth 2 n>1|s=0");
        for (int kind = 0; kind < 7; kind++) {
            x.plan(kind, 9 - kind);
        }
        x.row(5, 1, 2);
        x.row(5, 2, 5);
        x.book(1);
        x.book(2);
        x.image();
        x.cross(5);
        x.meet(1, 3, true);
        x.row(5, 0, 4);
        x.book(4);
        x.tape(0, 4, 5);
        x.item(0, 2, 1);
        x.tape(1, 1, 3);
        x.item(1, 1, 300);
        x.tape(2, 3, 3);
        Edge.feed(x, "least 2;x");
        x.act(6, 2, 3);
        return x;
    }

    /** As much as there is room for. */
    private static OnlyStrangers full() {
        OnlyStrangers x = Edge.crowd(5);
        for (int k = 0; k < 6; k++) {
            Edge.with(x, "least 1");
        }
        for (int k = 0; k < 10; k++) {
            x.plan(k % 7, k);
        }
        for (int k = 0; k < 12; k++) {
            x.book(1);
        }
        for (int k = 0; k < 100; k++) {
            x.feed('n');
        }
        return x;
    }

    /** Nobody yet, and no image. */
    private static OnlyStrangers bare() {
        OnlyStrangers x = new OnlyStrangers();
        x.plan(0, 0);
        return x;
    }

    /** All that can be seen of an object, in fewer than 300 calls: it is not as it was then. */
    private static List<Long> look(OnlyStrangers x) {
        List<Long> seen = new ArrayList<>();
        for (int what = 0; what < 6; what++) {
            seen.add((long) x.count(what));
            seen.add((long) x.told(what));
        }
        for (int i = 0; i < 12; i++) {
            seen.add((long) x.trace(i));
        }
        people(x, seen);
        for (int group = 1; group < 32; group += 3) {
            seen.add((long) x.group(group, 0));
            seen.add((long) x.group(group, 1));
        }
        asked(x, seen);
        for (int tape = 0; tape < 6; tape++) {
            for (int i = 0; i < 4; i++) {
                seen.add(x.read(tape, i));
            }
            seen.add((long) x.item(tape, 3, 1));
        }
        for (int plan = 0; plan < 11; plan++) {
            seen.add((long) x.by(plan, 0));
            seen.add((long) x.by(plan, 1));
            seen.add((long) x.by(plan, 2));
            seen.add((long) x.run(plan, 5, 1));
        }
        for (int part = 0; part < 3; part++) {
            seen.add((long) x.row(5, part, 0));
        }
        seen.add((long) x.parish());
        seen.add((long) x.told(1));
        seen.add((long) x.undo());
        seen.add((long) x.readBook());
        people(x, seen);
        for (int part = 0; part < 3; part++) {
            seen.add((long) x.row(5, part, 0));
        }
        for (int what = 0; what < 6; what++) {
            seen.add((long) x.told(what));
        }
        return seen;
    }

    private static void people(OnlyStrangers x, List<Long> seen) {
        for (int p = 0; p < 5; p++) {
            seen.add((long) x.of(p, 0));
            seen.add((long) x.of(p, 1));
            for (int q = 0; q < p; q++) {
                seen.add((long) x.pair(p, q, 1));
                seen.add((long) x.pair(p, q, 2));
            }
        }
    }

    private static void asked(OnlyStrangers x, List<Long> seen) {
        seen.add((long) x.groups());
        seen.add((long) x.longest());
        seen.add((long) x.home(0));
        seen.add((long) x.home(1));
        seen.add((long) x.left());
        seen.add((long) x.circle());
        seen.add((long) x.strangers());
        seen.add((long) x.price(0, 1));
        seen.add((long) x.price(2, 3));
        for (int n = 0; n < 4; n++) {
            seen.add(x.likely(n, 0));
            seen.add(x.likely(n, 1));
            seen.add(x.wanted(n, 0));
            seen.add(x.wanted(n, 1));
        }
        seen.add((long) x.readBook());
        seen.add((long) x.judge(0, 0, 1, 3));
    }

    /** The call answers so, and all is as without it. */
    private static void still(Scene scene, String name, Call call, long due) {
        OnlyStrangers x = scene.make();
        Edge.due(name, call.on(x), due);
        same(scene, name, x);
    }

    private static void same(Scene scene, String name, OnlyStrangers x) {
        List<Long> got = look(x);
        List<Long> want = look(scene.make());
        for (int k = 0; k < want.size(); k++) {
            Edge.due("the look " + k + " behind " + name, got.get(k), want.get(k));
        }
    }

    private static void refusedChangesNothing() {
        Edge.says(Edge.TERMS, "What is answered so changes nothing;");
        Scene s = EdgesOfRefusals::busy;
        still(s, "person(2, 0)", x -> x.person(2, 0), -1);
        still(s, "person(0, -1)", x -> x.person(0, -1), -1);
        still(s, "of(4, 0)", x -> x.of(4, 0), -1);
        still(s, "of(0, 3)", x -> x.of(0, 3), -1);
        still(s, "set(4, 0, 1)", x -> x.set(4, 0, 1), -1);
        still(s, "set(0, 2, 1)", x -> x.set(0, 2, 1), -1);
        still(s, "set(1, 0, 2)", x -> x.set(1, 0, 2), -1);
        still(s, "set(1, 1, -1)", x -> x.set(1, 1, -1), -1);
        still(s, "meet(0, 4, true)", x -> x.meet(0, 4, true), -1);
        still(s, "meet(-1, 0, false)", x -> x.meet(-1, 0, false), -1);
        still(s, "meet(4, 4, true)", x -> x.meet(4, 4, true), -1);
        still(s, "meet(1, 1, false)", x -> x.meet(1, 1, false), -2);
        still(s, "boat(2)", x -> x.boat(2), -1);
        still(s, "boat(-1)", x -> x.boat(-1), -1);
        still(s, "feed(128)", x -> x.feed(128), -2);
        still(s, "feed(-1)", x -> x.feed(-1), -2);
        still(s, "told(6)", x -> x.told(6), -1);
        still(s, "pair(0, 1, 3)", x -> x.pair(0, 1, 3), -1);
        still(s, "pair(1, 1, 0)", x -> x.pair(1, 1, 0), -2);
        still(s, "plan(7, 0)", x -> x.plan(7, 0), -1);
        still(s, "plan(0, 10)", x -> x.plan(0, 10), -2);
        still(s, "by(7, 0)", x -> x.by(7, 0), -1);
        still(s, "row(5, 3, 1)", x -> x.row(5, 3, 1), -1);
        still(s, "row(7, 0, 1)", x -> x.row(7, 0, 1), -1);
        still(s, "row(5, 0, 32)", x -> x.row(5, 0, 32), -2);
        still(s, "row(5, 1, -1)", x -> x.row(5, 1, -1), -2);
        still(s, "row(2, 0, 1)", x -> x.row(2, 0, 1), -3);
        still(s, "group(1, 2)", x -> x.group(1, 2), -10001);
        still(s, "group(16, 0)", x -> x.group(16, 0), -10002);
        still(s, "cross(0)", x -> x.cross(0), -10002);
        still(s, "cross(16)", x -> x.cross(16), -10002);
        still(s, "cross(FAR)", x -> x.cross(FAR), -10002);
        still(s, "cross(5) of such as met", x -> x.cross(5), -10003);
        still(s, "cross(15) of too many", x -> x.cross(15), -10003);
        still(s, "cross(9) of barred ones", x -> x.cross(9), -10003);
        still(s, "run(7, 1, 0)", x -> x.run(7, 1, 0), -10001);
        still(s, "run(0, 41, 0)", x -> x.run(0, 41, 0), -10002);
        still(s, "home(2)", x -> x.home(2), -1);
        still(s, "price(0, 4)", x -> x.price(0, 4), -1);
        still(s, "price(2, 2)", x -> x.price(2, 2), -2);
        still(s, "likely(4, 0)", x -> x.likely(4, 0), OnlyStrangers.NO);
        still(s, "wanted(3, 0)", x -> x.wanted(3, 0), OnlyStrangers.NO);
        still(s, "book(0)", x -> x.book(0), -2);
        still(s, "book(32)", x -> x.book(32), -2);
        still(s, "book(-2)", x -> x.book(-2), -2);
        still(s, "judge(6, 0, 0, 0)", x -> x.judge(6, 0, 0, 0), -1);
        still(s, "judge(0, 0, 0, 41)", x -> x.judge(0, 0, 0, 41), -2);
        still(s, "judge(1, 0, 0, 9)", x -> x.judge(1, 0, 0, 9), -12);
        still(s, "trace(12)", x -> x.trace(12), -1);
        still(s, "taken(0, 7)", x -> x.taken(0, 7), -2);
        still(s, "taken(7, 0)", x -> x.taken(7, 0), -11);
        still(s, "taken(1, 2)", x -> x.taken(1, 2), -12);
        still(s, "count(6)", x -> x.count(6), -2);
        refusedOfTapes(s);
    }

    private static void refusedOfTapes(Scene s) {
        still(s, "tape(6, 0, 1)", x -> x.tape(6, 0, 1), -1);
        still(s, "tape(0, 5, 1)", x -> x.tape(0, 5, 1), -2);
        still(s, "tape(0, -2, 1)", x -> x.tape(0, -2, 1), -2);
        still(s, "tape(0, 4, 61)", x -> x.tape(0, 4, 61), -2);
        still(s, "tape(1, 1, -1)", x -> x.tape(1, 1, -1), -14);
        still(s, "item(6, 0, 1)", x -> x.item(6, 0, 1), -1);
        still(s, "item(3, 0, 1)", x -> x.item(3, 0, 1), -11);
        still(s, "item(0, 5, 1)", x -> x.item(0, 5, 1), -13);
        still(s, "item(0, -1, 1)", x -> x.item(0, -1, 1), -13);
        still(s, "read(6, 0)", x -> x.read(6, 0), OnlyStrangers.NO);
        still(s, "read(3, 0)", x -> x.read(3, 0), OnlyStrangers.NO);
        still(s, "read(0, 5)", x -> x.read(0, 5), OnlyStrangers.NO);
        still(s, "shift(0, 0, 6, 0, 1)", x -> x.shift(0, 0, 6, 0, 1), -1);
        still(s, "shift(0, 0, 3, 0, 1)", x -> x.shift(0, 0, 3, 0, 1), -11);
        still(s, "shift(0, 2, 1, 0, 1)", x -> x.shift(0, 2, 1, 0, 1), -12);
        still(s, "shift(0, 2, 0, 0, 4)", x -> x.shift(0, 2, 0, 0, 4), -13);
        still(s, "shift(0, 2, 0, 3, 3)", x -> x.shift(0, 2, 0, 3, 3), -13);
        still(s, "shift(0, 2, 0, -1, 1)", x -> x.shift(0, 2, 0, -1, 1), -13);
        still(s, "shift(0, FAR_BELOW, 0, 0, FAR)", x -> x.shift(0, FAR_BELOW, 0, 0, FAR), -13);
    }

    private static void fullChangesNothing() {
        Edge.says(Edge.TERMS, "FULL (-4);");
        Scene s = EdgesOfRefusals::full;
        still(s, "person(1, 0)", x -> x.person(1, 0), -4);
        still(s, "feed('x')", x -> x.feed('x'), -4);
        still(s, "parish()", x -> x.parish(), -4);
        still(s, "plan(6, 9)", x -> x.plan(6, 9), -4);
        still(s, "book(31)", x -> x.book(31), -4);
    }

    private static void refusedWithoutImage() {
        Edge.says(Edge.TERMS, "STATE (-3) as told;");
        Scene s = EdgesOfRefusals::bare;
        still(s, "undo()", x -> x.undo(), -3);
        still(s, "row(0, 2, 31)", x -> x.row(0, 2, 31), -3);
        still(s, "cross(1)", x -> x.cross(1), -10002);
        still(s, "meet(0, 0, true)", x -> x.meet(0, 0, true), -1);
        still(s, "parish() of no text", x -> x.parish(), -10);
    }

    private static void askedChangesNothing() {
        Edge.says(Edge.TERMS, "what is asked changes nothing.");
        Edge.says(Edge.TERMS, "All that follows is asked, goes on from how all is, and changes nothing.");
        Scene[] scenes = {EdgesOfRefusals::busy, EdgesOfRefusals::full, EdgesOfRefusals::bare};
        for (Scene scene : scenes) {
            OnlyStrangers x = scene.make();
            for (int plan = 0; plan < 7; plan++) {
                x.run(plan, 40, 2);
                x.by(plan, 2);
                x.judge(0, 0, plan, 40);
                x.taken(plan, 2);
            }
            same(scene, "runs", x);
            OnlyStrangers y = scene.make();
            asked(y, new ArrayList<>());
            same(scene, "questions", y);
            OnlyStrangers z = scene.make();
            asked(z, new ArrayList<>());
            asked(z, new ArrayList<>());
            same(scene, "the same questions twice", z);
        }
    }

    private static void goesOnFromHowAllIs() {
        Edge.says(Edge.TERMS, "All that follows is asked, goes on from how all is,");
        OnlyStrangers x = Edge.with(Edge.crowd(3), "worth 1 c=0;worth 2 c=1;worth 4 c=2");
        x.plan(1, 0);
        Edge.due("run(0, 1, 2)", x.run(0, 1, 2), 1);
        Edge.due("longest()", x.longest(), 1);
        Edge.due("home(0)", x.home(0), 3);
        x.cross(3);
        Edge.due("run(0, 1, 2) behind a crossing", x.run(0, 1, 2), 2);
        Edge.due("run(0, 1, 3) behind a crossing", x.run(0, 1, 3), 0);
        Edge.due("longest() behind a crossing", x.longest(), 0);
        Edge.due("home(0) behind a crossing", x.home(0), 2);
        x.cross(1);
        Edge.due("run(0, 1, 2) behind two", x.run(0, 1, 2), 4);
        Edge.due("run(0, 1, 1) behind two", x.run(0, 1, 1), 7);
        Edge.due("longest() behind two", x.longest(), 2);
        Edge.due("home(0) behind two", x.home(0), 1);
        Edge.due("home(1) behind two", x.home(1), 5);
    }

    private static void theFirstNamed() {
        Edge.says(Edge.TERMS, "the first that a call's words name.");
        OnlyStrangers x = full();
        Edge.due("person(2, 0): NONE, FULL", x.person(2, 0), -1);
        Edge.due("feed(128): BAD, FULL", x.feed(128), -2);
        Edge.due("meet(5, 5, true): NONE, BAD", x.meet(5, 5, true), -1);
        Edge.due("pair(5, 5, 0): NONE, BAD", x.pair(5, 5, 0), -1);
        Edge.due("price(5, 5): NONE, BAD", x.price(5, 5), -1);
        Edge.due("parish(): FULL, FAULT", x.parish(), -4);
        Edge.due("plan(7, 10): NONE, BAD", x.plan(7, 10), -1);
        Edge.due("plan(0, 10): BAD, FULL", x.plan(0, 10), -2);
        Edge.due("row(10, 0, 32): NONE, BAD", x.row(10, 0, 32), -1);
        Edge.due("row(0, 3, 0): NONE, STATE", x.row(0, 3, 0), -1);
        Edge.due("row(0, 0, 32): BAD, STATE", x.row(0, 0, 32), -2);
        Edge.due("group(0, 2): NONE, BAD", x.group(0, 2), -10001);
        Edge.due("cross(32): BAD, STATE", x.cross(32), -10002);
        Edge.due("run(10, 41, 0): NONE, BAD", x.run(10, 41, 0), -10001);
        Edge.due("run(0, 41, 4): NONE, BAD", x.run(0, 41, 4), -10001);
        Edge.due("book(0): BAD, FULL", x.book(0), -2);
        x.tape(0, 0, 2);
        x.tape(1, 1, 2);
        Edge.due("judge(0, 0, 10, 41): NONE, BAD", x.judge(0, 0, 10, 41), -1);
        Edge.due("judge(0, 0, 0, 41): BAD, CAST", x.judge(0, 0, 0, 41), -2);
        Edge.due("judge(0, -1, 0, 0): CAST, the place", x.judge(0, -1, 0, 0), -12);
        Edge.due("taken(10, 7): BAD, NOTHING", x.taken(10, 7), -2);
        Edge.due("taken(10, 1): NOTHING, CAST", x.taken(10, 1), -11);
        Edge.due("tape(6, 5, -1): NONE, BAD", x.tape(6, 5, -1), -1);
        Edge.due("tape(0, 5, -1): BAD, SIZE", x.tape(0, 5, -1), -2);
        Edge.due("item(6, -1, 0): NONE, NOTHING", x.item(6, -1, 0), -1);
        Edge.due("item(2, -1, 0): NOTHING, PLACE", x.item(2, -1, 0), -11);
        Edge.due("shift(6, 0, 2, 0, 0): NONE, NOTHING", x.shift(6, 0, 2, 0, 0), -1);
        Edge.due("shift(0, 0, 2, 0, -1): NOTHING, PLACE", x.shift(0, 0, 2, 0, -1), -11);
        Edge.due("shift(0, 0, 1, 0, -1): CAST, PLACE", x.shift(0, 0, 1, 0, -1), -12);
    }
}
