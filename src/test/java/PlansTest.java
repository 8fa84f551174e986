/** Promises 11 to 17: plans, groups, crossings. */
public final class PlansTest {
    public static void main(String[] args) {
        plans();
        picks();
        needs();
        lots();
        best();
        bestForgets();
        toldRows();
        groups();
        worths();
        crossings();
        runs();
        runsThatEnd();
        Check.end("PlansTest", 11, 17);
    }

    private static void plans() {
        OnlyStrangers x = new OnlyStrangers();
        Check.due(11, "plan(7, 0)", x.plan(7, 0), -1);
        Check.due(11, "plan(-1, 10)", x.plan(-1, 10), -1);
        Check.due(11, "plan(0, 10)", x.plan(0, 10), -2);
        Check.due(11, "plan(0, -1)", x.plan(0, -1), -2);
        for (int p = 0; p < 10; p++) {
            Check.due(12, "by() of none", x.by(p, 0), -1);
            Check.due(11, "plan", x.plan(p % 7, 9 - p), p);
        }
        Check.due(11, "plan(0, 0)", x.plan(0, 0), -4);
        Check.due(11, "plan(7, 0)", x.plan(7, 0), -1);
        Check.due(11, "plan(0, 11)", x.plan(0, 11), -2);
        Check.due(11, "count(2)", x.count(2), 10);
        for (int p = 0; p < 10; p++) {
            Check.due(12, "by(" + p + ", 0)", x.by(p, 0), p % 7);
            Check.due(12, "by(" + p + ", 1)", x.by(p, 1), 9 - p);
            Check.due(12, "by(" + p + ", 2)", x.by(p, 2), -5);
        }
        Check.due(12, "by(0, 3)", x.by(0, 3), -1);
        Check.due(12, "by(0, -1)", x.by(0, -1), -1);
        Check.due(12, "by(-1, 0)", x.by(-1, 0), -1);
        Check.due(12, "by(10, 0)", x.by(10, 0), -1);
    }

    /** An object with a plan of each kind, its number the kind, all v the same. */
    private static OnlyStrangers withPlans(OnlyStrangers x, int v) {
        for (int kind = 0; kind < 7; kind++) {
            Check.due(11, "plan", x.plan(kind, v), kind);
        }
        return x;
    }

    private static void picks() {
        OnlyStrangers x = withPlans(Check.crowd(4), 0);
        Check.parish(x, "holds 3;least 2");
        x.meet(0, 1, true);
        Check.due(12, "PLAN", x.by(0, 2), 5);
        Check.due(12, "FULL", x.by(1, 2), 13);
        Check.due(12, "NEED", x.by(2, 2), 13);
        Check.due(12, "LOT", x.by(3, 2), 5);
        Check.due(12, "TOLD", x.by(5, 2), 13);
        Check.due(12, "SPARING", x.by(6, 2), 5);
        x.boat(1);
        for (int plan = 0; plan < 7; plan++) {
            Check.due(12, "by(" + plan + ", 2)", x.by(plan, 2), -5);
        }
    }

    private static void needs() {
        OnlyStrangers x = new OnlyStrangers();
        for (int p = 0; p < 5; p++) {
            x.person(0, p == 4 ? 1 : 0);
        }
        x.plan(2, 0);
        Check.parish(x, "holds 5;least 2");
        // 17: one wants to go, one does not: 1 - 0
        Check.due(12, "NEED", x.by(0, 2), 17);
        x.set(4, 1, 0);
        // each two: 0 - 1; more are less
        Check.due(12, "NEED", x.by(0, 2), 3);
        Check.parish(x, "holds 5;least 3");
        // each three: 0 - 1, each four: 0 - 2
        Check.due(12, "NEED", x.by(0, 2), 7);
        x.set(3, 1, 1);
        x.set(2, 1, 1);
        // 13: 2 - 0; 15: 2 - 1; 28: 2 - 0
        Check.due(12, "NEED", x.by(0, 2), 13);
        x.boat(1);
        x.set(0, 0, 1);
        x.set(2, 0, 1);
        x.set(3, 0, 1);
        x.set(4, 0, 1);
        // from shore 1: 0 and 4 want to go: 21: 2 - 0
        Check.due(12, "NEED", x.by(0, 2), 21);
    }

    private static void lots() {
        OnlyStrangers x = Check.crowd(3);
        Check.parish(x, "holds 2;forget 1");
        for (int v = 0; v < 8; v++) {
            x.plan(3, v);
        }
        x.plan(6, 4);
        int[] row = {1, 2, 3, 4, 5, 6};
        for (int v = 0; v < 8; v++) {
            Check.due(12, "LOT of " + v, x.by(v, 2), row[v % 6]);
        }
        Check.due(12, "SPARING of 4", x.by(8, 2), 2);
        x.cross(1);
        x.cross(1);
        for (int v = 0; v < 8; v++) {
            Check.due(12, "LOT of " + v + " behind 2", x.by(v, 2), row[(v + 2) % 6]);
        }
        Check.due(12, "SPARING of 4 behind 2", x.by(8, 2), 1);
        Check.parish(x, "least 2;holds 3");
        Check.due(12, "SPARING of 4, two at least", x.by(8, 2), 3);
        x.meet(0, 1, true);
        Check.due(12, "SPARING of 4, two at least, less one pair", x.by(8, 2), 5);
    }

    private static void best() {
        OnlyStrangers x = new OnlyStrangers();
        x.person(0, 0);
        x.person(0, 0);
        x.person(1, 0);
        x.plan(4, 0);
        x.plan(1, 0);
        // behind 0 and 1 there is 0 and 2 alone, or 1 and 2; behind 0 there is 0 and 2, then 0 and 1
        Check.due(12, "FULL", x.by(1, 2), 3);
        Check.due(12, "BEST", x.by(0, 2), 1);
        x.person(0, 0);
        x.set(2, 0, 0);
        x.set(3, 0, 1);
        // behind 0 and 1: 0 and 3, 0 and 2, 1 and 2, 1 and 3; behind one alone there are but two
        Check.due(12, "BEST", x.by(0, 2), 3);
        x.meet(0, 3, true);
        x.meet(1, 3, true);
        // only 2 does not know 3: what is behind each group is looked at by going there
        Check.due(12, "BEST", x.by(0, 2), lookedFor(x));
        OnlyStrangers y = new OnlyStrangers();
        for (int p = 0; p < 5; p++) {
            y.person(p == 0 || p == 2 ? 1 : 0, 1);
        }
        y.plan(4, 0);
        Check.parish(y, "holds 3;bar a=0&b=1");
        y.meet(2, 3, true);
        // one more crossing is better than one person more
        Check.due(12, "BEST", y.by(0, 2), 16);
        Check.due(12, "BEST", y.by(0, 2), lookedFor(y));
    }

    /** Goes with each group that may go, the greater ones first, and looks; the first one of the most. */
    private static int lookedFor(OnlyStrangers x) {
        int best = -5;
        int most = -1;
        for (int size = 5; size > 0; size--) {
            for (int g = 1; g < 32; g++) {
                if (Integer.bitCount(g) == size && x.group(g, 0) == 1 && longestBehind(x, g) > most) {
                    most = longestBehind(x, g);
                    best = g;
                }
            }
        }
        return best;
    }

    private static void bestForgets() {
        OnlyStrangers x = new OnlyStrangers();
        x.person(1, 0);
        x.person(0, 1);
        x.person(0, 0);
        x.plan(4, 0);
        x.meet(0, 1, true);
        Check.parish(x, "holds 4;forget 1");
        // behind the crossing 0 and 1 are strangers again: 0 1, 0 2 behind 1; as many behind 2
        Check.due(12, "BEST", x.by(0, 2), 2);
        Check.parish(x, "holds 4;forget 2");
        // behind the crossing they still know one another: none behind 1
        Check.due(12, "BEST", x.by(0, 2), 4);
    }

    private static int longestBehind(OnlyStrangers x, int group) {
        x.image();
        x.cross(group);
        int longest = x.longest();
        x.undo();
        return longest;
    }

    private static void toldRows() {
        OnlyStrangers x = withPlans(Check.crowd(3), 1);
        Check.due(13, "row(5, 0, 4)", x.row(5, 0, 4), 0);
        Check.due(13, "row(5, 0, 4)", x.row(5, 0, 4), 4);
        Check.due(13, "row(5, 1, 31)", x.row(5, 1, 31), 0);
        Check.due(13, "row(5, 2, 5)", x.row(5, 2, 5), 0);
        Check.due(12, "TOLD", x.by(5, 2), 4);
        x.cross(2);
        // 31 may not go: as NEED; 1 wants to be where it is: 0 - 0
        Check.due(12, "TOLD", x.by(5, 2), 2);
        x.cross(2);
        Check.due(12, "TOLD", x.by(5, 2), 5);
        x.cross(5);
        x.boat(0);
        // 4 would be told, but went
        Check.due(12, "TOLD", x.by(5, 2), 2);
        x.set(2, 0, 0);
        Check.due(12, "TOLD", x.by(5, 2), 4);
        Check.due(13, "row(5, 0, 0)", x.row(5, 0, 0), 4);
        Check.due(12, "TOLD as NEED", x.by(5, 2), 6);
        Check.due(13, "row(7, 0, 1)", x.row(7, 0, 1), -1);
        Check.due(13, "row(-1, 0, 1)", x.row(-1, 0, 1), -1);
        Check.due(13, "row(5, 3, 1)", x.row(5, 3, 1), -1);
        Check.due(13, "row(5, -1, 1)", x.row(5, -1, 1), -1);
        Check.due(13, "row(5, 0, 32)", x.row(5, 0, 32), -2);
        Check.due(13, "row(0, 0, -1)", x.row(0, 0, -1), -2);
        Check.due(13, "row(2, 0, 1)", x.row(2, 0, 1), -3);
        Check.due(13, "row(6, 0, 1)", x.row(6, 0, 1), -3);
        Check.due(13, "row(5, 0, 3)", x.row(5, 0, 3), 0);
    }

    private static void groups() {
        OnlyStrangers x = Check.crowd(4);
        Check.due(15, "groups()", x.groups(), 10);
        x.set(3, 0, 1);
        Check.due(15, "groups()", x.groups(), 6);
        Check.due(14, "group(8, 0)", x.group(8, 0), 0);
        Check.due(14, "group(9, 0)", x.group(9, 0), 0);
        Check.due(14, "group(6, 0)", x.group(6, 0), 1);
        Check.due(14, "group(7, 0)", x.group(7, 0), 0);
        x.meet(1, 2, true);
        Check.due(14, "group(6, 0)", x.group(6, 0), 0);
        Check.due(15, "groups()", x.groups(), 5);
        Check.parish(x, "bar a=0;holds 3;least 2");
        Check.due(15, "groups()", x.groups(), 0);
        Check.due(14, "group(3, 0)", x.group(3, 0), 0);
        Check.due(14, "group(1, 0)", x.group(1, 0), 0);
        Check.parish(x, "holds 3;least 0");
        Check.due(15, "groups()", x.groups(), 5);
        Check.due(14, "group(0, 2)", x.group(0, 2), -10001);
        Check.due(14, "group(1, -1)", x.group(1, -1), -10001);
        Check.due(14, "group(0, 0)", x.group(0, 0), -10002);
        Check.due(14, "group(16, 0)", x.group(16, 0), -10002);
        Check.due(14, "group(17, 1)", x.group(17, 1), -10002);
        Check.due(14, "group(-1, 1)", x.group(-1, 1), -10002);
        Check.due(14, "group(MIN, 1)", x.group(Integer.MIN_VALUE, 1), -10002);
    }

    private static void worths() {
        OnlyStrangers x = new OnlyStrangers();
        x.person(0, 1);
        x.person(0, 0);
        x.person(1, 1);
        Check.due(14, "group(1, 1)", x.group(1, 1), 0);
        Check.parish(x, "worth 1 n=1;worth 10 n=2|w=2;worth 20 w=1&s=0;worth 40 s=1;worth 70 c=2;worth 9 a=99&b=99");
        Check.due(14, "group(1, 1)", x.group(1, 1), 30);
        Check.due(14, "group(2, 1)", x.group(2, 1), 10);
        Check.due(14, "group(3, 1)", x.group(3, 1), 39);
        // 2 is across, and wants to be: so from the boat's shore 2 wants to go
        Check.due(14, "group(5, 1)", x.group(5, 1), 19);
        x.boat(1);
        Check.due(14, "group(2, 1)", x.group(2, 1), 50);
        Check.due(14, "group(4, 1)", x.group(4, 1), 50);
        x.boat(0);
        Check.due(16, "cross(1)", x.cross(1), 30);
        Check.due(16, "cross(1)", x.cross(1), 50);
        Check.due(16, "cross(1) behind two", x.cross(1), 100);
    }

    private static void crossings() {
        OnlyStrangers x = Check.crowd(4);
        Check.due(16, "cross(0)", x.cross(0), -10002);
        Check.due(16, "cross(16)", x.cross(16), -10002);
        Check.due(16, "cross(-3)", x.cross(-3), -10002);
        Check.due(16, "cross(7)", x.cross(7), -10003);
        Check.due(16, "told(4)", x.told(4), 0);
        Check.due(16, "cross(9)", x.cross(9), 0);
        Check.due(16, "told(4)", x.told(4), 1);
        Check.due(16, "told(3)", x.told(3), 1);
        Check.due(16, "of(0, 0)", x.of(0, 0), 1);
        Check.due(16, "of(3, 0)", x.of(3, 0), 1);
        Check.due(16, "of(1, 0)", x.of(1, 0), 0);
        Check.due(16, "pair(3, 0, 0)", x.pair(3, 0, 0), 1);
        Check.due(16, "told(5)", x.told(5), 1);
        Check.due(16, "cross(9)", x.cross(9), -10003);
        Check.due(16, "cross(2)", x.cross(2), -10003);
        Check.due(16, "cross(8)", x.cross(8), 0);
        Check.due(16, "told(3)", x.told(3), 0);
        Check.due(16, "cross(9)", x.cross(9), -10003);
        Check.due(16, "cross(10)", x.cross(10), 0);
        Check.due(16, "of(3, 2)", x.of(3, 2), 2);
        Check.parish(x, "holds 4;worth 7 c=3");
        x.boat(0);
        x.meet(0, 3, false);
        x.meet(1, 3, false);
        x.set(0, 0, 0);
        x.set(1, 0, 0);
        x.set(3, 0, 0);
        Check.due(16, "cross(15)", x.cross(15), 7);
        Check.due(16, "told(5)", x.told(5), 6);
    }

    private static void runs() {
        OnlyStrangers x = withPlans(Check.crowd(3), 0);
        Check.parish(x, "holds 2;worth 5 w=1&n=1;worth 3 n=2");
        // FULL: 3 goes, 1 comes back, 5 goes, 6 comes back; all know one another: 2 goes, 1 comes back
        int[] across = {0, 3, 2, 7, 1, 3, 2};
        int[] worth = {0, 3, 3, 6, 9, 14, 14};
        for (int n = 0; n < across.length; n++) {
            Check.due(17, "run(1, " + n + ", 0)", x.run(1, n, 0), n);
            Check.due(17, "run(1, " + n + ", 1)", x.run(1, n, 1), across[n]);
            Check.due(17, "run(1, " + n + ", 2)", x.run(1, n, 2), worth[n]);
            Check.due(17, "run(1, " + n + ", 3)", x.run(1, n, 3), n % 2);
        }
        Check.due(17, "run(1, 40, 0)", x.run(1, 40, 0), 40);
        Check.due(17, "told(4)", x.told(4), 0);
        Check.due(17, "run(7, 1, 0)", x.run(7, 1, 0), -10001);
        Check.due(17, "run(-1, 41, 0)", x.run(-1, 41, 0), -10001);
        Check.due(17, "run(1, 41, 4)", x.run(1, 41, 4), -10001);
        Check.due(17, "run(1, 1, -1)", x.run(1, 1, -1), -10001);
        Check.due(17, "run(1, 41, 0)", x.run(1, 41, 0), -10002);
        Check.due(17, "run(1, -1, 0)", x.run(1, -1, 0), -10002);
    }

    private static void runsThatEnd() {
        OnlyStrangers x = withPlans(Check.crowd(4), 2);
        x.set(2, 0, 1);
        x.set(3, 0, 1);
        Check.parish(x, "holds 2;least 2");
        // PLAN: 0 and 1 go; 0 and 2 come; nobody is with them but 0 and 2: it ends
        Check.due(17, "run(0, 9, 0)", x.run(0, 9, 0), 2);
        Check.due(17, "run(0, 9, 1)", x.run(0, 9, 1), 10);
        Check.due(17, "run(0, 9, 3)", x.run(0, 9, 3), 0);
        Check.parish(x, "holds 2;least 2;forget 2");
        // 0 and 1, 0 and 2, then none: 0 and 2 have just met
        Check.due(17, "run(0, 9, 0)", x.run(0, 9, 0), 2);
        Check.parish(x, "holds 2;least 2;forget 1;worth 2 n=2");
        // one crossing behind theirs nobody knows them any more, but they have none to go with: 1 and 3 are across
        Check.due(17, "run(0, 9, 0)", x.run(0, 9, 0), 2);
        x.person(0, 0);
        // 0 and 1 go, 0 and 2 come, 0 and 4 go (0 and 2 have just met), 0 and 1 come, 0 and 2 go, ...
        Check.due(17, "run(0, 9, 0)", x.run(0, 9, 0), 9);
        Check.due(17, "run(0, 9, 2)", x.run(0, 9, 2), 18);
        Check.due(17, "run(0, 3, 1)", x.run(0, 3, 1), 27);
        Check.due(17, "run(0, 4, 1)", x.run(0, 4, 1), 24);
        Check.due(17, "run(0, 5, 1)", x.run(0, 5, 1), 29);
    }
}
