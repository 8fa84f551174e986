/** Sentences of the Terms that tell of people, of who knows whom and who may go; promises 1 to 6, 9 and 10. */
final class EdgesOfPeople {
    private static final int FAR = Integer.MAX_VALUE;
    private static final int FAR_BELOW = Integer.MIN_VALUE;
    private static final int[] NO_SHORES = {-1, 2, FAR, FAR_BELOW};

    private EdgesOfPeople() {
    }

    static void all() {
        peopleAsTheyCome();
        boatAtFirst();
        crossingsAtFirst();
        knownOrNot();
        forgetting();
        forgettingSinceLast();
        mayGo();
        mayGoSizes();
        aCrossing();
        constants();
        newObject();
        fivePeople();
        ofOne();
        setOne();
        metByHand();
        sameOne();
        boatMoves();
        toldOfAll();
        ofPairs();
        crossingsSince();
    }

    private static void peopleAsTheyCome() {
        Edge.says(Edge.TERMS, "PEOPLE 0 .. 4, as they come: each on a SHORE (0, 1), and WANTING one.");
        OnlyStrangers x = new OnlyStrangers();
        int[][] told = {{1, 0}, {0, 0}, {1, 1}, {0, 1}, {1, 0}};
        for (int p = 0; p < 5; p++) {
            Edge.due("of(" + p + ", 0) ahead of that one", x.of(p, 0), -1);
            Edge.due("person()", x.person(told[p][0], told[p][1]), p);
            for (int q = 0; q <= p; q++) {
                Edge.due("of(" + q + ", 0)", x.of(q, 0), told[q][0]);
                Edge.due("of(" + q + ", 1)", x.of(q, 1), told[q][1]);
            }
        }
        Edge.due("of(5, 0)", x.of(5, 0), -1);
    }

    private static void boatAtFirst() {
        Edge.says(Edge.TERMS, "THE BOAT is at a SHORE (0 at first).");
        OnlyStrangers x = Edge.people("00", "10");
        Edge.due("told(3)", x.told(3), 0);
        Edge.due("group(1, 0)", x.group(1, 0), 1);
        Edge.due("group(2, 0)", x.group(2, 0), 0);
        x.boat(1);
        Edge.due("told(3)", x.told(3), 1);
        Edge.due("group(1, 0)", x.group(1, 0), 0);
        Edge.due("group(2, 0)", x.group(2, 0), 1);
        Edge.due("boat(0)", new OnlyStrangers().boat(1), 0);
    }

    private static void crossingsAtFirst() {
        Edge.says(Edge.TERMS, "CROSSINGS gone: 0 at first.");
        OnlyStrangers x = Edge.crowd(1);
        for (int k = 0; k < 70; k++) {
            Edge.due("told(4)", x.told(4), k);
            x.cross(1);
        }
        Edge.due("told(4)", new OnlyStrangers().told(4), 0);
    }

    private static void knownOrNot() {
        Edge.says(Edge.TERMS, "KNOWN: of each pair the CROSSING by which they met (or by hand), or not at all.");
        OnlyStrangers x = Edge.with(Edge.crowd(5), "holds 3");
        for (int a = 0; a < 5; a++) {
            for (int b = 0; b < a; b++) {
                Edge.due("pair(" + a + ", " + b + ", 2)", x.pair(a, b, 2), -5);
            }
        }
        x.cross(7);
        x.meet(3, 4, true);
        x.cross(1);
        for (int a = 0; a < 5; a++) {
            for (int b = 0; b < a; b++) {
                boolean met = a < 3 || b == 3;
                Edge.due("pair(" + a + ", " + b + ", 0)", x.pair(a, b, 0), met ? 1 : 0);
                Edge.due("pair(" + a + ", " + b + ", 2)", x.pair(a, b, 2), met ? 1 : -5);
            }
        }
    }

    private static void forgetting() {
        Edge.says(Edge.TERMS, "They KNOW one another: a pair that met, unless forget is above 0, and forget CROSSINGS or more have gone");
        for (int forget : new int[] {0, 1, 2, 3, 59, 60, 61, 99}) {
            for (int byHand = 0; byHand < 2; byHand++) {
                OnlyStrangers x = Edge.with(Edge.crowd(3), "forget " + forget);
                if (byHand == 1) {
                    x.meet(0, 1, true);
                } else {
                    x.cross(3);
                }
                for (int gone = 0; gone < 103; gone++) {
                    String when = "forget " + forget + ", " + gone + " gone: ";
                    int know = forget == 0 || gone < forget ? 1 : 0;
                    Edge.due(when + "pair(0, 1, 0)", x.pair(0, 1, 0), know);
                    Edge.due(when + "told(5)", x.told(5), know);
                    Edge.due(when + "of(0, 2)", x.of(0, 2), know);
                    x.cross(1);
                }
                Edge.due("pair(0, 2, 0)", x.pair(0, 2, 0), 0);
            }
        }
        OnlyStrangers x = Edge.with(Edge.crowd(2), "forget 1");
        x.meet(0, 1, true);
        Edge.time(x, 0, 2);
        Edge.due("group(3, 0) of such as forgot", x.group(3, 0), 1);
        Edge.due("told(5)", x.told(5), 0);
        Edge.due("of(0, 2)", x.of(0, 2), 0);
        Edge.with(x, "forget 2");
        Edge.due("pair(0, 1, 0), forget 2", x.pair(0, 1, 0), 0);
        Edge.with(x, "forget 3");
        Edge.due("pair(0, 1, 0), forget 3", x.pair(0, 1, 0), 1);
        Edge.with(x, "holds 2");
        Edge.due("pair(0, 1, 0), never forgotten", x.pair(0, 1, 0), 1);
        Edge.due("group(3, 0)", x.group(3, 0), 0);
    }

    private static void forgettingSinceLast() {
        Edge.says(Edge.TERMS, "behind that by which (or since when, by hand) they met last.");
        OnlyStrangers x = Edge.with(Edge.crowd(2), "forget 2");
        x.cross(3);
        Edge.due("right behind the crossing", x.pair(0, 1, 0), 1);
        x.cross(1);
        Edge.due("one behind", x.pair(0, 1, 0), 1);
        x.meet(0, 1, true);
        x.cross(1);
        Edge.due("one behind the later meeting", x.pair(0, 1, 0), 1);
        x.cross(2);
        Edge.due("two behind the later meeting", x.pair(0, 1, 0), 0);
        x.set(0, 0, 0);
        Edge.due("cross(3)", x.cross(3), 0);
        Edge.due("right behind the later crossing", x.pair(0, 1, 0), 1);
        Edge.due("pair(0, 1, 2)", x.pair(0, 1, 2), 0);
        x.cross(1);
        Edge.due("one behind the later crossing", x.pair(0, 1, 0), 1);
        x.cross(1);
        Edge.due("two behind the later crossing", x.pair(0, 1, 0), 0);
        Edge.due("pair(0, 1, 2)", x.pair(0, 1, 2), 2);
        x.meet(0, 1, false);
        Edge.due("pair(0, 1, 2) of strangers", x.pair(0, 1, 2), -5);
    }

    private static void mayGo() {
        Edge.says(Edge.TERMS, "A GROUP (bits of PEOPLE) MAY go: all are on THE BOAT's SHORE;");
        OnlyStrangers x = Edge.with(Edge.people("00", "10", "00", "10", "00"), "holds 5");
        for (int boat = 0; boat < 2; boat++) {
            x.boat(boat);
            int here = boat == 0 ? 21 : 10;
            for (int group = 1; group < 32; group++) {
                Edge.due("group(" + group + ", 0) from " + boat, x.group(group, 0), (group & ~here) == 0 ? 1 : 0);
            }
        }
        Edge.says(Edge.TERMS, "no two of them KNOW one another, or are BARRED.");
        OnlyStrangers y = Edge.with(Edge.crowd(5), "holds 5;bar a=0&b=4");
        y.meet(1, 2, true);
        for (int group = 1; group < 32; group++) {
            boolean closed = (group & 6) == 6 || (group & 17) == 17;
            Edge.due("group(" + group + ", 0)", y.group(group, 0), closed ? 0 : 1);
        }
    }

    private static void mayGoSizes() {
        Edge.says(Edge.TERMS, "there are no fewer than least (1 at least), no more than holds;");
        for (int least = 0; least < 7; least++) {
            for (int holds = 0; holds < 7; holds++) {
                OnlyStrangers x = Edge.with(Edge.crowd(5), "least " + least + ";holds " + holds);
                int many = 0;
                for (int group = 1; group < 32; group++) {
                    int size = Integer.bitCount(group);
                    boolean may = size >= least && size <= holds;
                    many += may ? 1 : 0;
                    Edge.due("least " + least + ", holds " + holds + ": " + group, x.group(group, 0), may ? 1 : 0);
                }
                Edge.due("groups()", x.groups(), many);
            }
        }
        OnlyStrangers y = Edge.with(Edge.crowd(5), "least 99;holds 99");
        Edge.due("groups(), least 99", y.groups(), 0);
        Edge.with(y, "least 0;holds 99");
        Edge.due("groups(), least 0, holds 99", y.groups(), 31);
        Edge.with(y, "least 00;holds 00");
        Edge.due("groups(), holds 0", y.groups(), 0);
    }

    private static void aCrossing() {
        Edge.says(Edge.TERMS, "A CROSSING: a GROUP goes: all of it are on the other SHORE then, THE BOAT, too; each two of it met by it; CROSSINGS are 1 more.");
        for (int boat = 0; boat < 2; boat++) {
            for (int group = 1; group < 32; group++) {
                OnlyStrangers x = Edge.with(new OnlyStrangers(), "holds 5");
                for (int p = 0; p < 5; p++) {
                    x.person((group >> p & 1) == 1 ? boat : p & 1, 0);
                }
                x.boat(boat);
                x.cross(group);
                for (int p = 0; p < 5; p++) {
                    boolean goes = (group >> p & 1) == 1;
                    Edge.due("of(" + p + ", 0) behind " + group, x.of(p, 0), goes ? 1 - boat : p & 1);
                    Edge.due("of(" + p + ", 2)", x.of(p, 2), goes ? Integer.bitCount(group) - 1 : 0);
                }
                Edge.due("told(3)", x.told(3), 1 - boat);
                Edge.due("told(4)", x.told(4), 1);
            }
        }
        Edge.says(Edge.TERMS, "WORTH is told of the GROUP ahead of it.");
        OnlyStrangers y = Edge.with(Edge.crowd(1), "worth 1 s=0;worth 2 c=0;worth 4 w=1;worth 8 s=1;worth 16 c=1;worth 32 w=0");
        Edge.due("group(1, 1)", y.group(1, 1), 7);
        Edge.due("cross(1)", y.cross(1), 7);
        Edge.due("cross(1)", y.cross(1), 56);
        Edge.due("cross(1)", y.cross(1), 5);
    }

    private static void constants() {
        Edge.says(Edge.TERMS, "Answers: NONE (-1) no such number; BAD (-2) a number is not as told; STATE (-3) as told; FULL (-4);");
        Edge.due("NONE", OnlyStrangers.NONE, -1);
        Edge.due("BAD", OnlyStrangers.BAD, -2);
        Edge.due("STATE", OnlyStrangers.STATE, -3);
        Edge.due("FULL", OnlyStrangers.FULL, -4);
        Edge.says(Edge.TERMS, "The constants: `NO = Long.MIN_VALUE`: There is no such number.");
        Edge.due("NO", OnlyStrangers.NO, -9223372036854775808L);
        Edge.due("read(-1, 0)", new OnlyStrangers().read(-1, 0), OnlyStrangers.NO);
        Edge.due("likely(0, 0)", new OnlyStrangers().likely(0, 0), OnlyStrangers.NO);
        Edge.due("wanted(3, 0)", new OnlyStrangers().wanted(3, 0), OnlyStrangers.NO);
    }

    // ---- the promises

    private static void newObject() {
        Edge.says(1, "Nobody, no PARISH.");
        OnlyStrangers x = new OnlyStrangers();
        for (int what = 0; what < 6; what++) {
            Edge.due("count(" + what + ")", x.count(what), 0);
        }
        Edge.due("of(0, 0)", x.of(0, 0), -1);
        Edge.due("told(0)", x.told(0), 2);
        Edge.due("told(1)", x.told(1), 1);
        Edge.due("told(2)", x.told(2), 0);
        Edge.due("by(0, 0)", x.by(0, 0), -1);
        Edge.due("undo()", x.undo(), -3);
        Edge.due("parish()", x.parish(), -10);
        OnlyStrangers y = Edge.crowd(5);
        Edge.with(y, "holds 9");
        Edge.due("count(0) of another one", new OnlyStrangers().count(0), 0);
        Edge.due("told(0) of another one", new OnlyStrangers().told(0), 2);
    }

    private static void fivePeople() {
        Edge.says(2, "One of the PEOPLE: its number.");
        OnlyStrangers x = new OnlyStrangers();
        for (int p = 0; p < 5; p++) {
            Edge.due("person(1, 0)", x.person(1, 0), p);
            Edge.due("count(0)", x.count(0), p + 1);
        }
        Edge.says(2, "NONE: shores; FULL: 5.");
        OnlyStrangers y = new OnlyStrangers();
        for (int p = 0; p <= 5; p++) {
            for (int shore : NO_SHORES) {
                Edge.due("person(" + shore + ", 0)", y.person(shore, 0), -1);
                Edge.due("person(1, " + shore + ")", y.person(1, shore), -1);
                Edge.due("person(" + shore + ", " + shore + ")", y.person(shore, shore), -1);
            }
            Edge.due("count(0)", y.count(0), p);
            Edge.due("person(0, 1)", y.person(0, 1), p < 5 ? p : -4);
        }
        Edge.due("person(1, 1)", y.person(1, 1), -4);
        Edge.due("count(0)", y.count(0), 5);
        Edge.due("of(4, 0)", y.of(4, 0), 0);
    }

    private static void ofOne() {
        Edge.says(3, "Of one of the PEOPLE what 0 SHORE, 1 which they WANT, 2 how many they KNOW.");
        OnlyStrangers x = Edge.people("01", "10", "11", "00", "01");
        x.meet(0, 1, true);
        x.meet(1, 2, true);
        x.meet(4, 1, true);
        x.meet(1, 3, true);
        int[][] due = {{0, 1, 1}, {1, 0, 4}, {1, 1, 1}, {0, 0, 1}, {0, 1, 1}};
        for (int p = 0; p < 5; p++) {
            for (int what = 0; what < 3; what++) {
                Edge.due("of(" + p + ", " + what + ")", x.of(p, what), due[p][what]);
            }
        }
        Edge.says(3, "NONE.");
        for (int what = 0; what < 3; what++) {
            Edge.due("of(-1, " + what + ")", x.of(-1, what), -1);
            Edge.due("of(5, " + what + ")", x.of(5, what), -1);
            Edge.due("of(2, " + what + ") of two", Edge.crowd(2).of(2, what), -1);
            Edge.due("of(0, " + what + ") of nobody", new OnlyStrangers().of(0, what), -1);
            Edge.due("of(32, " + what + ")", x.of(32, what), -1);
            Edge.due("of(MIN, " + what + ")", x.of(FAR_BELOW, what), -1);
            Edge.due("of(MAX, " + what + ")", x.of(FAR, what), -1);
        }
        for (int what : new int[] {-1, 3, FAR, FAR_BELOW}) {
            Edge.due("of(0, " + what + ")", x.of(0, what), -1);
        }
    }

    private static void setOne() {
        Edge.says(4, "One of the PEOPLE is on a SHORE now (what 0), WANTS one (1): which it was.");
        for (int p = 0; p < 5; p++) {
            for (int what = 0; what < 2; what++) {
                OnlyStrangers x = Edge.people("00", "00", "00", "00", "00");
                Edge.due("set() to 1", x.set(p, what, 1), 0);
                Edge.due("set() to 1 again", x.set(p, what, 1), 1);
                for (int q = 0; q < 5; q++) {
                    Edge.due("of(" + q + ", 0)", x.of(q, 0), q == p && what == 0 ? 1 : 0);
                    Edge.due("of(" + q + ", 1)", x.of(q, 1), q == p && what == 1 ? 1 : 0);
                }
                Edge.due("set() to 0", x.set(p, what, 0), 1);
                Edge.due("set() to 0 again", x.set(p, what, 0), 0);
                Edge.due("of(" + p + ")", x.of(p, what), 0);
            }
        }
        Edge.says(4, "NONE.");
        OnlyStrangers x = Edge.crowd(2);
        for (int shore : NO_SHORES) {
            Edge.due("set(0, 0, " + shore + ")", x.set(0, 0, shore), -1);
            Edge.due("set(0, 1, " + shore + ")", x.set(0, 1, shore), -1);
            Edge.due("set(0, " + shore + ", 0)", x.set(0, shore, 0), -1);
            Edge.due("set(" + shore + ", 0, 0)", x.set(shore, 0, 0), -1);
            Edge.due("set(" + shore + ", 1, 0)", x.set(shore, 1, 0), -1);
        }
        Edge.due("of(0, 0)", x.of(0, 0), 0);
        Edge.due("of(0, 1)", x.of(0, 1), 1);
        Edge.due("set(4, 0, 0) of five", Edge.crowd(5).set(4, 0, 0), 0);
        Edge.due("set(5, 0, 0) of five", Edge.crowd(5).set(5, 0, 0), -1);
    }

    private static void metByHand() {
        Edge.says(5, "Two of the PEOPLE met by hand now, or are made strangers (they never met then): 1 if they KNEW one another, 0.");
        for (int a = 0; a < 5; a++) {
            for (int b = 0; b < 5; b++) {
                if (a != b) {
                    OnlyStrangers x = Edge.crowd(5);
                    Edge.due("meet(" + a + ", " + b + ", false)", x.meet(a, b, false), 0);
                    Edge.due("meet(" + a + ", " + b + ", true)", x.meet(a, b, true), 0);
                    Edge.due("meet(" + b + ", " + a + ", true)", x.meet(b, a, true), 1);
                    Edge.due("told(5)", x.told(5), 1);
                    Edge.due("pair(" + b + ", " + a + ", 2)", x.pair(b, a, 2), 0);
                    Edge.due("meet(" + b + ", " + a + ", false)", x.meet(b, a, false), 1);
                    Edge.due("meet(" + a + ", " + b + ", false)", x.meet(a, b, false), 0);
                    Edge.due("pair(" + a + ", " + b + ", 2)", x.pair(a, b, 2), -5);
                    Edge.due("told(5)", x.told(5), 0);
                }
            }
        }
        for (int forget = 1; forget < 5; forget++) {
            OnlyStrangers y = Edge.with(Edge.crowd(2), "forget " + forget);
            y.cross(3);
            for (int is = 0; is < 2; is++) {
                Edge.time(y, 0, forget - 1);
                Edge.due("meet() of such as nearly forgot", y.meet(0, 1, true), 1);
                Edge.time(y, 0, forget);
                Edge.due("meet() of such as forgot", y.meet(0, 1, is == 0), 0);
            }
            Edge.due("pair(0, 1, 2)", y.pair(0, 1, 2), -5);
            y.meet(0, 1, true);
            Edge.time(y, 0, forget - 1);
            Edge.due("meet(false) of such as nearly forgot", y.meet(0, 1, false), 1);
        }
    }

    private static void sameOne() {
        Edge.says(5, "NONE; BAD: one person.");
        OnlyStrangers x = Edge.crowd(3);
        for (int no : new int[] {-1, 3, 5, FAR, FAR_BELOW}) {
            Edge.due("meet(0, " + no + ", true)", x.meet(0, no, true), -1);
            Edge.due("meet(" + no + ", 0, true)", x.meet(no, 0, true), -1);
            Edge.due("meet(" + no + ", " + no + ", true)", x.meet(no, no, true), -1);
        }
        for (int p = 0; p < 3; p++) {
            Edge.due("meet(" + p + ", " + p + ", true)", x.meet(p, p, true), -2);
            Edge.due("meet(" + p + ", " + p + ", false)", x.meet(p, p, false), -2);
        }
        Edge.due("told(5)", x.told(5), 0);
        Edge.due("meet(0, 0, true) of nobody", new OnlyStrangers().meet(0, 0, true), -1);
    }

    private static void boatMoves() {
        Edge.says(6, "THE BOAT is at a SHORE: where it was. NONE.");
        OnlyStrangers x = new OnlyStrangers();
        int[] shores = {0, 1, 1, 0, 1};
        int was = 0;
        for (int shore : shores) {
            for (int no : NO_SHORES) {
                Edge.due("boat(" + no + ")", x.boat(no), -1);
            }
            Edge.due("boat(" + shore + ")", x.boat(shore), was);
            Edge.due("told(3)", x.told(3), shore);
            was = shore;
        }
        Edge.due("told(4): no crossing", x.told(4), 0);
    }

    private static void toldOfAll() {
        Edge.says(9, "What 0 holds, 1 least (as told), 2 forget, 3 THE BOAT's SHORE, 4 CROSSINGS, 5 pairs that KNOW one another.");
        OnlyStrangers x = Edge.with(Edge.crowd(5), "holds 5;least 0;forget 7");
        x.cross(7);
        x.meet(3, 4, true);
        int[] due = {5, 0, 7, 1, 1, 4};
        for (int what = 0; what < 6; what++) {
            Edge.due("told(" + what + ")", x.told(what), due[what]);
        }
        Edge.with(x, "least 99;holds 00");
        Edge.due("told(1) as told", x.told(1), 99);
        Edge.due("told(0)", x.told(0), 0);
        OnlyStrangers y = Edge.with(Edge.crowd(5), "holds 5");
        y.cross(31);
        Edge.due("told(5) of all", y.told(5), 10);
        Edge.says(9, "NONE.");
        for (int what : new int[] {-1, 6, 7, FAR, FAR_BELOW}) {
            Edge.due("told(" + what + ")", x.told(what), -1);
        }
    }

    private static void ofPairs() {
        Edge.says(10, "Of a pair what 0 whether they KNOW one another, 1 whether BARRED,");
        OnlyStrangers x = Edge.with(Edge.crowd(4), "bar a=0&b<3;forget 2");
        x.meet(0, 1, true);
        x.meet(3, 2, true);
        for (int k = 0; k < 4; k++) {
            Edge.due("pair(0, 1, 0)", x.pair(0, 1, 0), k < 2 ? 1 : 0);
            Edge.due("pair(1, 0, 1)", x.pair(1, 0, 1), 1);
            Edge.due("pair(2, 3, 0)", x.pair(2, 3, 0), k < 2 ? 1 : 0);
            Edge.due("pair(2, 3, 1)", x.pair(2, 3, 1), 0);
            Edge.due("pair(2, 0, 0)", x.pair(2, 0, 0), 0);
            Edge.due("pair(2, 0, 1)", x.pair(2, 0, 1), 1);
            x.cross(1);
        }
        Edge.says(10, "NONE; BAD: one person.");
        for (int no : new int[] {-1, 4, 5, FAR, FAR_BELOW}) {
            Edge.due("pair(" + no + ", 0, 0)", x.pair(no, 0, 0), -1);
            Edge.due("pair(0, " + no + ", 0)", x.pair(0, no, 0), -1);
            Edge.due("pair(" + no + ", " + no + ", 0)", x.pair(no, no, 0), -1);
        }
        for (int what : new int[] {-1, 3, FAR, FAR_BELOW}) {
            Edge.due("pair(0, 1, " + what + ")", x.pair(0, 1, what), -1);
            Edge.due("pair(1, 1, " + what + "): NONE comes first", x.pair(1, 1, what), -1);
        }
        for (int what = 0; what < 3; what++) {
            for (int p = 0; p < 4; p++) {
                Edge.due("pair(" + p + ", " + p + ", " + what + ")", x.pair(p, p, what), -2);
            }
        }
    }

    private static void crossingsSince() {
        Edge.says(10, "2 how many CROSSINGS have gone since they met (-5: they never did).");
        OnlyStrangers x = Edge.with(Edge.crowd(3), "forget 3");
        Edge.due("pair(0, 1, 2)", x.pair(0, 1, 2), -5);
        x.cross(3);
        for (int k = 0; k < 64; k++) {
            Edge.due("pair(0, 1, 2), forgotten or not", x.pair(0, 1, 2), k);
            Edge.due("pair(2, 1, 2)", x.pair(2, 1, 2), -5);
            x.cross(1);
        }
        x.meet(1, 0, true);
        Edge.due("pair(0, 1, 2) behind a meeting", x.pair(0, 1, 2), 0);
        x.cross(1);
        Edge.due("pair(0, 1, 2) behind a meeting", x.pair(0, 1, 2), 1);
        x.meet(1, 0, false);
        Edge.due("pair(0, 1, 2) of strangers", x.pair(0, 1, 2), -5);
    }
}
