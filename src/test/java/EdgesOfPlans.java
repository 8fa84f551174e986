/** Sentences of the Terms that tell of plans and of runs; promises 11 to 17. */
final class EdgesOfPlans {
    private static final int FAR = Integer.MAX_VALUE;
    private static final int FAR_BELOW = Integer.MIN_VALUE;

    private EdgesOfPlans() {
    }

    static void all() {
        tenPlans();
        kindsUnder();
        numberV();
        noneMay();
        least();
        full();
        need();
        lot();
        best();
        bestForgets();
        bestOfSeveral();
        told();
        sparing();
        runLength();
        runEnds();
        runGoesOn();
        plans();
        byWhat();
        rows();
        groupWhat();
        groupsNow();
        crossings();
        nineThousand();
        runRefuses();
    }

    /** A plan of each kind, its number the kind, all v the same. */
    private static OnlyStrangers kinds(OnlyStrangers x, int v) {
        for (int kind = 0; kind < 7; kind++) {
            x.plan(kind, v);
        }
        return x;
    }

    /** The groups that may go, ascending, or those of them of the fewest. */
    private static int[] open(OnlyStrangers x, boolean fewest) {
        int size = 0;
        int[] open = new int[32];
        int many = 0;
        for (int pass = fewest ? 1 : 9; pass < 10 && many == 0; pass++) {
            size = pass;
            for (int group = 1; group < 32; group++) {
                if (x.group(group, 0) == 1 && (size == 9 || Integer.bitCount(group) == size)) {
                    open[many] = group;
                    many++;
                }
            }
        }
        return java.util.Arrays.copyOf(open, many);
    }

    // ---- the Terms

    private static void tenPlans() {
        Edge.says(Edge.TERMS, "PLANS 0 .. 9, as they come, are of KINDS: 0 PLAN;");
        OnlyStrangers x = new OnlyStrangers();
        for (int p = 0; p < 10; p++) {
            Edge.due("by(" + p + ", 0) ahead of that", x.by(p, 0), -1);
            Edge.due("plan()", x.plan(p * 3 % 7, p), p);
        }
        for (int p = 0; p < 10; p++) {
            Edge.due("by(" + p + ", 0)", x.by(p, 0), p * 3 % 7);
        }
        Edge.due("plan() of the eleventh", x.plan(0, 0), -4);
        Edge.due("by(10, 0)", x.by(10, 0), -1);
    }

    private static void kindsUnder() {
        Edge.says(Edge.TERMS, "1 FULL, 2 NEED, 3 LOT under PLAN; 4 BEST under FULL; 5 TOLD under NEED; 6 SPARING under LOT;");
        OnlyStrangers x = kinds(new OnlyStrangers(), 0);
        int[] above = {-1, 0, 0, 0, 1, 2, 3};
        for (int kind = 0; kind < 7; kind++) {
            for (int k = 0; k < 7; k++) {
                boolean under = k == kind || k == 0 || k == above[kind];
                Edge.due("taken(" + kind + ", " + k + ")", x.taken(kind, k), under ? kind : -12);
            }
        }
    }

    private static void numberV() {
        Edge.says(Edge.TERMS, "with a number v (0 .. 9).");
        OnlyStrangers x = new OnlyStrangers();
        for (int v = 0; v < 10; v++) {
            Edge.due("plan(0, " + v + ")", x.plan(0, v), v);
            Edge.due("by(" + v + ", 1)", x.by(v, 1), v);
        }
        for (int v : new int[] {-1, 10, FAR, FAR_BELOW}) {
            Edge.due("plan(0, " + v + ")", new OnlyStrangers().plan(0, v), -2);
        }
    }

    private static void noneMay() {
        Edge.says(Edge.TERMS, "Of GROUPS that MAY go one TAKES (-5: none MAY):");
        OnlyStrangers[] scenes = {new OnlyStrangers(), Edge.people("10", "10"), Edge.with(Edge.crowd(5), "holds 0"),
            Edge.with(Edge.crowd(3), "least 4;holds 4"), Edge.with(Edge.crowd(5), "least 2;bar a<9"),
            Edge.with(Edge.crowd(5), "least 3;holds 2")};
        for (int k = 0; k < scenes.length; k++) {
            kinds(scenes[k], 9);
            scenes[k].row(5, 0, 1);
            for (int plan = 0; plan < 7; plan++) {
                Edge.due("by(" + plan + ", 2) of scene " + k, scenes[k].by(plan, 2), -5);
                Edge.due("run(" + plan + ", 40, 0) of scene " + k, scenes[k].run(plan, 40, 0), 0);
            }
        }
        OnlyStrangers x = kinds(Edge.with(Edge.people("10", "00", "10"), "holds 5"), 7);
        for (int plan = 0; plan < 7; plan++) {
            Edge.due("by(" + plan + ", 2) if just one may", x.by(plan, 2), 2);
        }
    }

    private static void least() {
        Edge.says(Edge.TERMS, "PLAN: the least (as bits).");
        OnlyStrangers x = kinds(Edge.with(Edge.crowd(5), "holds 5"), 0);
        Edge.due("by(0, 2)", x.by(0, 2), 1);
        x.set(0, 0, 1);
        Edge.due("by(0, 2), 0 across", x.by(0, 2), 2);
        x.set(0, 0, 0);
        Edge.with(x, "holds 5;least 2");
        Edge.due("by(0, 2), two at least", x.by(0, 2), 3);
        x.meet(0, 1, true);
        Edge.due("by(0, 2), 0 and 1 met", x.by(0, 2), 5);
        x.meet(0, 2, true);
        x.meet(1, 2, true);
        Edge.due("by(0, 2), 0, 1 and 2 met", x.by(0, 2), 9);
        Edge.with(x, "holds 5;least 3");
        Edge.due("by(0, 2), three at least", x.by(0, 2), 25);
    }

    private static void full() {
        Edge.says(Edge.TERMS, "FULL: the one of the most; of several the least.");
        int[] due = {-5, 1, 3, 7, 15, 31, 31};
        for (int holds = 0; holds < due.length; holds++) {
            OnlyStrangers x = kinds(Edge.with(Edge.crowd(5), "holds " + holds), 0);
            Edge.due("by(1, 2), holds " + holds, x.by(1, 2), due[holds]);
        }
        OnlyStrangers x = kinds(Edge.with(Edge.crowd(5), "holds 3"), 0);
        x.meet(0, 1, true);
        Edge.due("by(1, 2) without 0 and 1 together", x.by(1, 2), 13);
        x.meet(0, 3, true);
        Edge.due("by(1, 2) without 0 and 3, too", x.by(1, 2), 14);
        x.meet(1, 2, true);
        x.meet(2, 3, true);
        x.meet(1, 4, true);
        Edge.due("by(1, 2): only 0, 2 and 4 are three", x.by(1, 2), 21);
        x.meet(0, 4, true);
        Edge.due("by(1, 2): no three are left", x.by(1, 2), 5);
    }

    private static void need() {
        Edge.says(Edge.TERMS, "NEED: the one with the most WANTING the other SHORE less half (cut) of those that WANT this one; of several the least.");
        for (int wants = 0; wants < 32; wants++) {
            for (int least = 1; least < 6; least++) {
                OnlyStrangers x = new OnlyStrangers();
                for (int p = 0; p < 5; p++) {
                    x.person(least & 1, wants >> p & 1);
                }
                x.boat(least & 1);
                Edge.with(x, "holds " + (wants % 2 == 0 ? 5 : least) + ";least " + least);
                x.plan(2, 0);
                if (wants % 3 == 0) {
                    x.meet(1, 3, true);
                }
                int wantOther = (least & 1) == 0 ? wants : ~wants;
                int due = -5;
                int most = -99;
                for (int group : open(x, false)) {
                    int other = Integer.bitCount(group & wantOther);
                    int score = other - (Integer.bitCount(group) - other) / 2;
                    due = score > most ? group : due;
                    most = Math.max(most, score);
                }
                Edge.due("by(0, 2), wants " + wants + ", least " + least, x.by(0, 2), due);
            }
        }
    }

    private static void lot() {
        Edge.says(Edge.TERMS, "LOT: in the row of them (ascending) the one at the place (v and CROSSINGS gone) modulo how many there are.");
        for (int holds = 1; holds < 4; holds++) {
            OnlyStrangers x = Edge.with(Edge.crowd(3), "holds " + holds);
            for (int v = 0; v < 10; v++) {
                x.plan(3, v);
            }
            for (int gone = 0; gone < 6; gone++) {
                int[] row = open(x, false);
                for (int v = 0; v < 10; v++) {
                    Edge.due("by(" + v + ", 2) behind " + gone + " of " + row.length, x.by(v, 2), row[(v + gone) % row.length]);
                }
                x.cross(1);
            }
        }
        OnlyStrangers y = Edge.crowd(2);
        y.plan(3, 2);
        Edge.due("by(0, 2) of three: the last", y.by(0, 2), 3);
        y.plan(3, 3);
        Edge.due("by(1, 2) of three: the first again", y.by(1, 2), 1);
        Edge.time(y, 0, 200);
        Edge.due("by(0, 2) behind 200", y.by(0, 2), 2);
        Edge.due("by(1, 2) behind 200", y.by(1, 2), 3);
    }

    /** How long a row is left behind a group. */
    private static int longestBehind(OnlyStrangers x, int group) {
        x.image();
        x.cross(group);
        int longest = x.longest();
        x.undo();
        return longest;
    }

    private static void best() {
        Edge.says(Edge.TERMS, "BEST: the one behind which LONGEST is most;");
        String[] texts = {"holds 2", "holds 3", "holds 2;forget 1", "holds 4;forget 2", "holds 5;least 2", "holds 3;bar a=1",
            "holds 2;bar b=2"};
        for (int scene = 0; scene < 90; scene++) {
            OnlyStrangers x = new OnlyStrangers();
            int people = 4 + scene % 2;
            for (int p = 0; p < people; p++) {
                x.person((scene * 7 + p * p * (1 + scene % 3)) % 5 < 2 ? 1 : 0, 1);
            }
            Edge.with(x, texts[scene % texts.length]);
            x.meet(scene % 4, (scene + 1 + scene / 4 % 3) % 4, true);
            x.cross(1 << scene % 3);
            x.meet(scene % people, (scene + 1 + scene / 5 % 3) % people, true);
            x.plan(4, 0);
            int due = -5;
            int most = -1;
            for (int group : open(x, false)) {
                int score = longestBehind(x, group) * 10 + Integer.bitCount(group);
                due = score > most ? group : due;
                most = Math.max(most, score);
            }
            Edge.due("by(0, 2) of scene " + scene, x.by(0, 2), due);
        }
    }

    private static void bestForgets() {
        Edge.says(Edge.TERMS, "behind which LONGEST");
        OnlyStrangers x = Edge.with(Edge.people("10", "01", "00"), "holds 4;forget 1");
        x.plan(4, 0);
        x.meet(0, 1, true);
        // behind the crossing 0 and 1 are strangers again: 0 1, 0 2 behind 1; as many behind 2
        Edge.due("by(0, 2): they forget by it", x.by(0, 2), 2);
        Edge.with(x, "holds 4;forget 2");
        // behind the crossing they still know one another: none behind 1
        Edge.due("by(0, 2): they don't forget by it", x.by(0, 2), 4);
        Edge.with(x, "holds 4;bar a=0&b=1");
        x.meet(0, 1, false);
        Edge.due("by(0, 2): they are barred", x.by(0, 2), 4);
        OnlyStrangers y = Edge.with(Edge.people("11", "01", "11", "01", "01"), "holds 3;bar a=0&b=1");
        y.plan(4, 0);
        y.meet(2, 3, true);
        Edge.due("by(0, 2): one crossing more is better than more people", y.by(0, 2), 16);
    }

    private static void bestOfSeveral() {
        Edge.says(Edge.TERMS, "of several as FULL.");
        OnlyStrangers x = Edge.with(Edge.crowd(3), "holds 3;bar a<9");
        x.plan(4, 0);
        Edge.due("by(0, 2): none is left behind any; the least of one", x.by(0, 2), 1);
        OnlyStrangers y = Edge.crowd(2);
        y.plan(4, 0);
        Edge.due("by(0, 2): none is left behind any; the one of most", y.by(0, 2), 3);
        OnlyStrangers z = Edge.with(Edge.crowd(4), "holds 4;least 2;bar b>1");
        z.plan(4, 0);
        Edge.due("by(0, 2): just one may", z.by(0, 2), 3);
        Edge.with(z, "holds 4;least 2;bar a=0");
        Edge.due("by(0, 2): of four the one of most", z.by(0, 2), 14);
        Edge.with(z, "holds 2;least 2;bar a=0");
        Edge.due("by(0, 2): of three the least", z.by(0, 2), 6);
    }

    private static void told() {
        Edge.says(Edge.TERMS, "TOLD: what its ROW tells for CROSSINGS gone modulo 3 (a GROUP; 0 at first), if that MAY go; else as NEED.");
        OnlyStrangers x = Edge.people("00", "01", "00");
        x.plan(5, 0);
        Edge.due("by(0, 2) at first: as NEED", x.by(0, 2), 2);
        x.row(0, 0, 4);
        x.row(0, 1, 6);
        x.row(0, 2, 5);
        // behind each second crossing 0 alone is with the boat, whatever the row tells
        int[] due = {4, 1, 5, 1, 6, 1, 4, 1, 5};
        for (int k = 0; k < due.length; k++) {
            Edge.due("by(0, 2) behind " + k, x.by(0, 2), due[k]);
            x.cross(1);
        }
        OnlyStrangers y = Edge.people("00", "01", "10");
        y.plan(5, 0);
        int[] none = {0, 4, 5, 7, 8, 16, 31};
        for (int group : none) {
            y.row(0, 0, group);
            Edge.due("by(0, 2): " + group + " may not go", y.by(0, 2), 2);
        }
        for (int group : new int[] {1, 2, 3}) {
            y.row(0, 0, group);
            Edge.due("by(0, 2): " + group + " may go", y.by(0, 2), group);
        }
        y.meet(0, 1, true);
        Edge.due("by(0, 2): 0 and 1 met", y.by(0, 2), 2);
        y.boat(1);
        Edge.due("by(0, 2) from the other shore", y.by(0, 2), 4);
    }

    private static void sparing() {
        Edge.says(Edge.TERMS, "SPARING: of those with the fewest the one that LOT takes among them.");
        for (int least = 1; least < 5; least++) {
            OnlyStrangers x = Edge.with(Edge.crowd(4), "holds 4;least " + least + ";forget 1");
            x.meet(0, 3, true);
            for (int v = 0; v < 10; v++) {
                x.plan(6, v);
            }
            for (int gone = 0; gone < 3 && x.groups() > 0; gone++) {
                int[] row = open(x, true);
                for (int v = 0; v < 10; v++) {
                    Edge.due("by(" + v + ", 2) behind " + gone + ", least " + least, x.by(v, 2), row[(v + gone) % row.length]);
                }
                x.cross(row[0]);
                x.boat(0);
                x.set(0, 0, 0);
                x.set(1, 0, 0);
            }
        }
    }

    private static void runLength() {
        Edge.says(Edge.TERMS, "RUN of a PLAN for n CROSSINGS (0 .. 40; it ends as soon as none MAY go):");
        OnlyStrangers x = Edge.with(Edge.people("01", "11"), "worth 3 n=1");
        x.plan(0, 0);
        int[] still = {0, 2, 0, 0};
        for (int what = 0; what < 4; what++) {
            Edge.due("run(0, 0, " + what + ")", x.run(0, 0, what), still[what]);
        }
        for (int n = 0; n <= 40; n++) {
            Edge.due("run(0, " + n + ", 0)", x.run(0, n, 0), n);
            Edge.due("run(0, " + n + ", 2)", x.run(0, n, 2), 3 * n);
            Edge.due("run(0, " + n + ", 3)", x.run(0, n, 3), n & 1);
        }
        Edge.due("run(0, 41, 0)", x.run(0, 41, 0), -10002);
        Edge.due("run(0, -1, 0)", x.run(0, -1, 0), -10002);
    }

    private static void runEnds() {
        Edge.says(Edge.TERMS, "it ends as soon as none MAY go");
        OnlyStrangers x = Edge.with(Edge.crowd(2), "least 2;worth 5 n=2");
        kinds(x, 1);
        int[][] due = {{0, 0, 0, 0}, {1, 3, 5, 1}, {1, 3, 5, 1}, {1, 3, 5, 1}};
        for (int plan = 0; plan < 7; plan++) {
            for (int n = 0; n < 4; n++) {
                for (int what = 0; what < 4; what++) {
                    Edge.due("run(" + plan + ", " + n + ", " + what + ")", x.run(plan, n, what), due[n][what]);
                }
            }
            Edge.due("run(" + plan + ", 40, 0)", x.run(plan, 40, 0), 1);
        }
        x.boat(1);
        for (int plan = 0; plan < 7; plan++) {
            Edge.due("run(" + plan + ", 40, 0): none may at once", x.run(plan, 40, 0), 0);
            Edge.due("run(" + plan + ", 40, 3): none may at once", x.run(plan, 40, 3), 1);
        }
    }

    private static void runGoesOn() {
        Edge.says(Edge.TERMS, "how many CROSSINGS went, who is on SHORE 1, WORTH, all together, THE BOAT's SHORE.");
        for (int kind = 0; kind < 7; kind++) {
            OnlyStrangers x = Edge.with(Edge.people("01", "00", "11", "01"), "holds 3;forget 3;worth 2 n>1;worth 7 w>1|c=9");
            x.cross(1);
            x.plan(kind, 4);
            x.row(0, 0, 5);
            x.row(0, 2, 7);
            x.image();
            int worth = 0;
            for (int n = 0; n < 12; n++) {
                x.undo();
                int went = x.run(0, n, 0);
                int across = x.run(0, n, 1);
                int together = x.run(0, n, 2);
                int boat = x.run(0, n, 3);
                worth = 0;
                for (int k = 0; k < n; k++) {
                    worth += x.cross(x.by(0, 2));
                }
                String call = "run(0, " + n + ") of kind " + kind;
                Edge.due(call + ": crossings", went, x.told(4) - 1);
                Edge.due(call + ": worth", together, worth);
                Edge.due(call + ": boat", boat, x.told(3));
                for (int p = 0; p < 4; p++) {
                    Edge.due(call + ": person " + p, across >> p & 1, x.of(p, 0));
                }
                Edge.due(call + ": nobody else", across >> 4, 0);
            }
        }
    }

    // ---- the promises

    private static void plans() {
        Edge.says(11, "A PLAN: its number.");
        OnlyStrangers x = kinds(new OnlyStrangers(), 3);
        Edge.due("count(2)", x.count(2), 7);
        Edge.due("plan(0, 0)", x.plan(0, 0), 7);
        Edge.says(11, "NONE: kind; BAD: v; FULL: 10.");
        for (int more = 0; more < 3; more++) {
            for (int no : new int[] {-1, 7, 8, FAR, FAR_BELOW}) {
                Edge.due("plan(" + no + ", 0)", x.plan(no, 0), -1);
                Edge.due("plan(" + no + ", 10): NONE comes first", x.plan(no, 10), -1);
            }
            for (int no : new int[] {-1, 10, 11, FAR, FAR_BELOW}) {
                Edge.due("plan(6, " + no + ")", x.plan(6, no), -2);
                Edge.due("plan(0, " + no + ")", x.plan(0, no), -2);
            }
            Edge.due("plan(6, 9)", x.plan(6, 9), more < 2 ? 8 + more : -4);
        }
        Edge.due("count(2)", x.count(2), 10);
        Edge.due("plan(0, 0)", x.plan(0, 0), -4);
    }

    private static void byWhat() {
        Edge.says(12, "Of a PLAN what 0 KIND, 1 v, 2 the GROUP that it TAKES now (-5).");
        OnlyStrangers x = Edge.crowd(2);
        for (int kind = 0; kind < 7; kind++) {
            x.plan(kind, 9 - kind);
        }
        int[] takes = {1, 3, 3, 1, 3, 3, 2};
        for (int plan = 0; plan < 7; plan++) {
            Edge.due("by(" + plan + ", 0)", x.by(plan, 0), plan);
            Edge.due("by(" + plan + ", 1)", x.by(plan, 1), 9 - plan);
            Edge.due("by(" + plan + ", 2)", x.by(plan, 2), takes[plan]);
        }
        x.boat(1);
        for (int plan = 0; plan < 7; plan++) {
            Edge.due("by(" + plan + ", 2) if none may", x.by(plan, 2), -5);
        }
        Edge.says(12, "NONE.");
        for (int what = 0; what < 3; what++) {
            for (int no : new int[] {-1, 7, 10, FAR, FAR_BELOW}) {
                Edge.due("by(" + no + ", " + what + ")", x.by(no, what), -1);
            }
        }
        for (int no : new int[] {-1, 3, FAR, FAR_BELOW}) {
            Edge.due("by(0, " + no + ")", x.by(0, no), -1);
        }
    }

    private static void rows() {
        Edge.says(13, "The ROW of a TOLD PLAN tells a GROUP (0 .. 31) for part (0 .. 2): what it told.");
        OnlyStrangers x = kinds(new OnlyStrangers(), 0);
        x.plan(5, 1);
        for (int part = 0; part < 3; part++) {
            int was = 0;
            for (int group : new int[] {0, 31, 1, 30, 16, 5}) {
                Edge.due("row(5, " + part + ", " + group + ")", x.row(5, part, group), was);
                was = group;
            }
        }
        for (int part = 0; part < 3; part++) {
            Edge.due("row(7, " + part + ", 9): of its own", x.row(7, part, 9), 0);
            Edge.due("row(5, " + part + ", 0)", x.row(5, part, 0), 5);
        }
        Edge.says(13, "NONE: plan, part; BAD; STATE: another KIND.");
        for (int no : new int[] {-1, 8, 10, FAR, FAR_BELOW}) {
            Edge.due("row(" + no + ", 0, 32): NONE comes first", x.row(no, 0, 32), -1);
        }
        for (int no : new int[] {-1, 3, FAR, FAR_BELOW}) {
            Edge.due("row(5, " + no + ", 32): NONE comes first", x.row(5, no, 32), -1);
            Edge.due("row(0, " + no + ", 1): NONE comes first", x.row(0, no, 1), -1);
        }
        for (int kind = 0; kind < 7; kind++) {
            for (int no : new int[] {-1, 32, FAR, FAR_BELOW}) {
                Edge.due("row(" + kind + ", 0, " + no + "): BAD comes first", x.row(kind, 0, no), -2);
            }
            if (kind != 5) {
                for (int part = 0; part < 3; part++) {
                    Edge.due("row(" + kind + ", " + part + ", 0)", x.row(kind, part, 0), -3);
                    Edge.due("row(" + kind + ", " + part + ", 31)", x.row(kind, part, 31), -3);
                }
            }
        }
        Edge.due("row(5, 0, 0)", x.row(5, 0, 0), 0);
        Edge.due("row(7, 2, 0)", x.row(7, 2, 0), 9);
    }

    private static void groupWhat() {
        Edge.says(14, "Of a GROUP what 0 whether it MAY go, 1 WORTH as it would go from THE BOAT's SHORE.");
        OnlyStrangers x = Edge.with(Edge.people("01", "10"), "worth 1 s=0;worth 2 s=1;worth 4 w=1;worth 8 w=2");
        int[][] worth = {{5, 1, 5}, {2, 6, 6}};
        for (int boat = 0; boat < 2; boat++) {
            x.boat(boat);
            for (int group = 1; group < 4; group++) {
                Edge.due("group(" + group + ", 0)", x.group(group, 0), group == 1 + boat ? 1 : 0);
                Edge.due("group(" + group + ", 1)", x.group(group, 1), worth[boat][group - 1]);
            }
        }
        Edge.says(14, "-10001: NONE: what; -10002: BAD: no bits, or of such as are not there.");
        for (int no : new int[] {-1, 2, FAR, FAR_BELOW}) {
            Edge.due("group(1, " + no + ")", x.group(1, no), -10001);
            Edge.due("group(0, " + no + "): NONE comes first", x.group(0, no), -10001);
            Edge.due("group(32, " + no + "): NONE comes first", x.group(32, no), -10001);
        }
        for (int people = 0; people <= 5; people++) {
            OnlyStrangers y = Edge.crowd(people);
            for (int what = 0; what < 2; what++) {
                Edge.due("group(0, " + what + ")", y.group(0, what), -10002);
                for (int no : new int[] {1 << people, (2 << people) - 1, 32, 33, 63, -1, FAR, FAR_BELOW, FAR_BELOW + 1}) {
                    Edge.due("group(" + no + ", " + what + ") of " + people, y.group(no, what), -10002);
                }
                if (people > 0) {
                    int whole = (1 << people) - 1;
                    Edge.due("group(" + whole + ", " + what + ")", y.group(whole, what), what == 0 && people < 3 ? 1 : 0);
                }
            }
        }
    }

    private static void groupsNow() {
        Edge.says(15, "How many GROUPS MAY go now.");
        int[] due = {0, 1, 3, 6, 10, 15};
        for (int people = 0; people <= 5; people++) {
            Edge.due("groups() of " + people, Edge.crowd(people).groups(), due[people]);
        }
        OnlyStrangers x = Edge.with(Edge.crowd(5), "holds 5");
        Edge.due("groups() of five", x.groups(), 31);
        x.boat(1);
        Edge.due("groups() where nobody is", x.groups(), 0);
        x.boat(0);
        x.meet(0, 1, true);
        Edge.due("groups() without 0 and 1 together", x.groups(), 23);
        Edge.with(x, "holds 5;bar a<9");
        Edge.due("groups(), all barred", x.groups(), 5);
        x.cross(1);
        Edge.due("groups() behind a crossing", x.groups(), 1);
    }

    private static void crossings() {
        Edge.says(16, "A CROSSING of a GROUP: its WORTH.");
        OnlyStrangers x = Edge.with(Edge.crowd(3), "holds 3;worth 9 n=3;worth 4 n=1");
        Edge.due("cross(7)", x.cross(7), 9);
        Edge.due("cross(1)", x.cross(1), 4);
        Edge.says(16, "-10002: BAD;");
        for (int no : new int[] {0, 8, 9, 16, 31, 32, 33, -1, -7, FAR, FAR_BELOW}) {
            Edge.due("cross(" + no + ")", x.cross(no), -10002);
        }
        Edge.due("cross(1) of nobody", new OnlyStrangers().cross(1), -10002);
        Edge.says(16, "-10003: STATE: it MAY not go,");
        Edge.due("cross(2) from the other shore", x.cross(2), -10003);
        Edge.due("cross(3), one from the other shore", x.cross(3), -10003);
        x.set(1, 0, 0);
        Edge.due("cross(3) of such as met", x.cross(3), -10003);
        OnlyStrangers y = Edge.with(Edge.crowd(4), "holds 3;least 2;bar a=0&b=1");
        Edge.due("cross(1) of too few", y.cross(1), -10003);
        Edge.due("cross(15) of too many", y.cross(15), -10003);
        Edge.due("cross(3) of barred ones", y.cross(3), -10003);
        Edge.due("cross(7) with barred ones", y.cross(7), -10003);
        Edge.due("told(4)", y.told(4), 0);
        Edge.due("told(3)", y.told(3), 0);
        Edge.due("cross(14)", y.cross(14), 0);
    }

    /** What calls behind the 512th answer is free: this looks at what the class is made for, not at what is promised. */
    private static void nineThousand() {
        Edge.says(16, "or there were 9999.");
        OnlyStrangers x = Edge.with(Edge.crowd(1), "worth 5 n=1");
        for (int k = 0; k < 9998; k++) {
            x.cross(1);
        }
        Edge.due("told(4)", x.told(4), 9998);
        Edge.due("cross(1) of the last", x.cross(1), 5);
        Edge.due("cross(1) behind 9999", x.cross(1), -10003);
        Edge.due("told(4)", x.told(4), 9999);
        Edge.due("told(3)", x.told(3), 1);
        Edge.due("cross(2): BAD comes first", x.cross(2), -10002);
    }

    private static void runRefuses() {
        Edge.says(17, "RUN: what 0 how many CROSSINGS, 1 who is on SHORE 1 (bits), 2 WORTH, 3 THE BOAT's SHORE.");
        OnlyStrangers x = Edge.with(Edge.crowd(5), "holds 4;worth 6 n=4");
        x.plan(1, 0);
        int[] due = {1, 15, 6, 1};
        for (int what = 0; what < 4; what++) {
            Edge.due("run(0, 1, " + what + ")", x.run(0, 1, what), due[what]);
        }
        Edge.says(17, "-10001: NONE: plan, what; -10002: BAD: n.");
        for (int no : new int[] {-1, 1, 10, FAR, FAR_BELOW}) {
            Edge.due("run(" + no + ", 1, 0)", x.run(no, 1, 0), -10001);
            Edge.due("run(" + no + ", 41, 0): NONE comes first", x.run(no, 41, 0), -10001);
        }
        for (int no : new int[] {-1, 4, FAR, FAR_BELOW}) {
            Edge.due("run(0, 1, " + no + ")", x.run(0, 1, no), -10001);
            Edge.due("run(0, 41, " + no + "): NONE comes first", x.run(0, 41, no), -10001);
        }
        for (int what = 0; what < 4; what++) {
            for (int no : new int[] {-1, 41, 42, FAR, FAR_BELOW}) {
                Edge.due("run(0, " + no + ", " + what + ")", x.run(0, no, what), -10002);
            }
        }
    }
}
