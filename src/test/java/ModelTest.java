import java.util.ArrayList;
import java.util.List;
import java.util.Random;

/** Long runs of chosen calls (the same ones each time) on the program and on the model: all answers are the same. */
public final class ModelTest {
    private static final int RUNS = Integer.getInteger("runs", 300);
    private static final int CALLS = 300;
    private static final String[] TEXTS = {
        "holds 2", "holds 3", "holds 4;least 1;worth 3 w>1;worth 1 n=1", "holds 5;forget 4", "holds 2;least 2",
        "holds 3;least 2;forget 2", "holds 1", "holds 0", "holds 9;worth 7 s=1|n>2", "holds 2;forget 1",
        "holds 3;least 1;forget 3;bar a=0&b=2;worth 4 n>1;worth 9 w>0&s=0;worth 1 c>1", "bar a<2&b>2", "least 0",
        "holds 4;bar !(a=0|b=4)&!(a=1&(b=2|b=3))", "holds 3;bar a=1&b=3|a=0;worth 12 n=99|c<5", "holds 5;least 3",
        "holds 2;bar n=99&a=2", "holds 3;worth 99 !(w=0)&s=0;worth 50 c>2&c<30", "holds 4;least 2;forget 6;bar b=1",
        "holds 99;least 3", "holds 3;least 5", "worth 1 a=99&b=99&n<9;holds 3", "forget 9", "forget 60;holds 02"};
    private static final String SIGNS = "holdsleatfrgbw 0123456789;()!&|<=>abnwsc";

    private final Random choice;
    private final OnlyStrangers x = new OnlyStrangers();
    private final Model m = new Model();
    private final List<String> told = new ArrayList<>();
    private boolean same = true;

    private ModelTest(long seed) {
        choice = new Random(seed);
    }

    public static void main(String[] args) {
        int wrong = 0;
        for (int run = 0; run < RUNS && wrong < 3; run++) {
            ModelTest test = new ModelTest(run);
            test.run(run % 3);
            if (!test.same) {
                wrong++;
                System.out.println("run " + run + ":");
                int from = Math.max(0, test.told.size() - 60);
                for (String line : test.told.subList(from, test.told.size())) {
                    System.out.println("  " + line);
                }
            }
        }
        wrong += faultsOfTexts();
        System.out.println("ModelTest: " + RUNS + " runs, " + wrong + " not as the model");
        if (wrong != 0) {
            System.exit(1);
        }
    }

    /** Texts with a sign or two changed: the fault is at the same place. */
    private static int faultsOfTexts() {
        Random choice = new Random(77);
        int wrong = 0;
        for (int k = 0; k < 20000; k++) {
            StringBuilder text = new StringBuilder(TEXTS[choice.nextInt(TEXTS.length)]);
            if (choice.nextInt(3) == 0) {
                text.append(";").append(TEXTS[choice.nextInt(TEXTS.length)]);
            }
            for (int changes = choice.nextInt(4); changes > 0 && text.length() > 1; changes--) {
                int at = choice.nextInt(text.length());
                char sign = SIGNS.charAt(choice.nextInt(SIGNS.length()));
                switch (choice.nextInt(3)) {
                    case 0: text.setCharAt(at, sign); break;
                    case 1: text.insert(at, sign); break;
                    default: text.deleteCharAt(at);
                }
            }
            text.setLength(Math.min(100, text.length()));
            OnlyStrangers x = new OnlyStrangers();
            for (int s = 0; s < text.length(); s++) {
                x.feed(text.charAt(s));
            }
            int got = x.parish();
            int fault = Model.fault(text.toString());
            if (got != (fault < 0 ? 0 : -10 - fault)) {
                wrong++;
                System.out.println("parish() of " + text + " answered " + got + ", the fault is " + fault);
            }
        }
        return wrong;
    }

    private void due(String call, long got, long want) {
        told.add(call + " " + got + (got == want ? "" : ", due is " + want));
        same &= got == want;
    }

    private int small(int most) {
        return choice.nextInt(12) == 0 ? choice.nextInt(most + 4) - 2 : choice.nextInt(most);
    }

    private void run(int sort) {
        int people = choice.nextInt(6);
        for (int p = 0; p < people; p++) {
            int shore = sort == 0 ? 0 : choice.nextInt(2);
            int wants = sort == 0 ? 1 : choice.nextInt(2);
            due("person", x.person(shore, wants), m.person(shore, wants));
        }
        for (int k = 0; k < CALLS && same; k++) {
            int n = choice.nextInt(sort == 2 ? 46 : 34);
            if (n < 10) {
                change(n);
            } else if (n < 20) {
                ask(n);
            } else if (n < 34) {
                search(n);
            } else {
                tapes(n);
            }
        }
    }

    private void feed() {
        String text = TEXTS[choice.nextInt(TEXTS.length)];
        for (int s = 0; s < text.length(); s++) {
            due("feed", x.feed(text.charAt(s)), m.feed(text.charAt(s)));
        }
        if (choice.nextInt(20) == 0) {
            int sign = choice.nextInt(140) - 5;
            due("feed " + sign, x.feed(sign), m.feed(sign));
        }
        due("parish " + text, x.parish(), m.parish());
    }

    private void change(int n) {
        int a = small(5);
        int b = small(5);
        int s = small(2);
        switch (n) {
            case 0:
                if (choice.nextInt(6) == 0) {
                    due("person " + s + a, x.person(s, a), m.person(s, a));
                    due("person " + s, x.person(s, 0), m.person(s, 0));
                }
                break;
            case 1: due("set " + a + b + s, x.set(a, b & 1, s), m.set(a, b & 1, s)); break;
            case 2: due("meet " + a + b, x.meet(a, b, s == 0), m.meet(a, b, s == 0)); break;
            case 3: due("boat " + s, x.boat(s), m.boat(s)); break;
            case 4: if (choice.nextInt(5) == 0) feed(); break;
            case 5:
                int kind = small(7);
                int v = small(10);
                due("plan " + kind + " " + v, x.plan(kind, v), m.plan(kind, v));
                break;
            case 6:
                int plan = small(10);
                int g = small(32);
                due("row " + plan + " " + s + " " + g, x.row(plan, s, g), m.row(plan, s, g));
                break;
            case 7:
                int group = small(32);
                due("book " + group, x.book(group), m.book(group));
                break;
            case 8:
                int open = 1 + choice.nextInt(31);
                for (int k = 0; k < 31 && m.group(open, 0) != 1; k++) {
                    open = open % 31 + 1;
                }
                due("cross " + open, x.cross(open), m.cross(open));
                break;
            default:
                if (choice.nextInt(4) == 0) {
                    due("image", x.image(), m.image());
                } else {
                    due("undo", x.undo(), m.undo());
                }
        }
    }

    private void ask(int n) {
        int a = small(5);
        int b = small(5);
        int what = small(3);
        int plan = small(10);
        int g = small(32);
        switch (n) {
            case 10: due("of " + a + what, x.of(a, what), m.of(a, what)); break;
            case 11: due("told " + (b + 1), x.told(b + 1), m.told(b + 1)); break;
            case 12: due("pair " + a + b + what, x.pair(a, b, what), m.pair(a, b, what)); break;
            case 13: due("by " + plan + what, x.by(plan, what), m.by(plan, what)); break;
            case 14: due("group " + g + what, x.group(g, what), m.group(g, what)); break;
            case 15: due("cross " + g, x.cross(g), m.cross(g)); break;
            case 16: due("taken " + plan + " " + b, x.taken(plan, b), m.taken(plan, b)); break;
            case 17: due("count " + b, x.count(b + 1), m.count(b + 1)); break;
            case 18:
                int with = choice.nextInt(10) == 0 ? choice.nextInt() : choice.nextInt(20) - 6;
                due("act " + plan + " " + what + " " + with, x.act(plan, what, with), m.act(plan, what, with));
                for (int i = -1; i < 22; i++) {
                    due("trace " + i, x.trace(i), m.trace(i));
                }
                due("count 5", x.count(5), m.count(5));
                break;
            default: due("readBook", x.readBook(), m.readBook());
        }
    }

    private void search(int n) {
        int plan = choice.nextInt(10);
        int crossings = choice.nextInt(8) == 0 ? choice.nextInt(45) - 2 : choice.nextInt(8);
        int a = small(5);
        int b = small(5);
        int part = small(2);
        switch (n) {
            case 20: due("longest", x.longest(), m.longest()); break;
            case 21: case 22: due("home " + part, x.home(part), m.home(part)); break;
            case 23: due("left", x.left(), m.left()); break;
            case 24: due("circle", x.circle(), m.circle()); break;
            case 25: due("strangers", x.strangers(), m.strangers()); break;
            case 26: due("price " + a + b, x.price(a, b), m.price(a, b)); break;
            case 27:
                int lots = choice.nextInt(10) == 0 ? small(4) : 1 + choice.nextInt(2);
                due("likely " + lots + part, x.likely(lots, part), m.likely(lots, part));
                break;
            case 28:
                int behind = choice.nextInt(10) == 0 ? small(3) : choice.nextInt(2);
                due("wanted " + behind + part, x.wanted(behind, part), m.wanted(behind, part));
                break;
            case 29: due("groups", x.groups(), m.groups()); break;
            default:
                int what = small(4);
                due("run " + plan + " " + crossings + " " + what, x.run(plan, crossings, what), m.run(plan, crossings, what));
        }
    }

    private void tapes(int n) {
        int tape = small(6);
        int other = small(6);
        int i = small(9);
        int j = small(9);
        switch (n) {
            case 34: case 35:
                int sort = choice.nextInt(8) - 2;
                int size = choice.nextInt(10) == 0 ? choice.nextInt(70) - 4 : choice.nextInt(12);
                due("tape " + tape + " " + sort + " " + size, x.tape(tape, sort, size), m.tape(tape, sort, size));
                break;
            case 36: case 37: case 38:
                long v = choice.nextInt(3) == 0 ? choice.nextLong() : choice.nextInt(3) - 1;
                due("item " + tape + " " + i + " " + v, x.item(tape, i, v), m.item(tape, i, v));
                break;
            case 39: case 40: due("read " + tape + " " + i, x.read(tape, i), m.read(tape, i)); break;
            case 41: case 42:
                int many = small(6);
                due("shift " + tape + i + other + j + many, x.shift(tape, i, other, j, many), m.shift(tape, i, other, j, many));
                break;
            case 43:
                int far = Integer.MAX_VALUE - choice.nextInt(3);
                due("shift far", x.shift(tape, far, other, j, far), m.shift(tape, far, other, j, far));
                due("judge far", x.judge(tape, far, 0, 1), m.judge(tape, far, 0, 1));
                break;
            default: judged(tape, i);
        }
    }

    /** Tells most shores as they are behind a run, so that the judging goes on beyond the first. */
    private void judged(int tape, int i) {
        int plan = choice.nextInt(4);
        int crossings = small(5);
        if (choice.nextInt(3) > 0) {
            int size = choice.nextInt(10);
            due("tape " + tape, x.tape(tape, 4, size), m.tape(tape, 4, size));
            int across = m.run(plan, crossings, 1);
            for (int p = 0; p < 5; p++) {
                int v = (across >> p & 1) ^ (choice.nextInt(8) == 0 ? 1 : 0);
                due("item " + tape, x.item(tape, i + p, v), m.item(tape, i + p, v));
            }
        }
        due("judge " + tape + " " + i + " " + plan + " " + crossings, x.judge(tape, i, plan, crossings),
            m.judge(tape, i, plan, crossings));
    }
}
