/** Sentences of the Terms that tell of what can be, of lots and of books; promises 18 to 27. */
final class EdgesOfRows {
    private static final int FAR = Integer.MAX_VALUE;
    private static final int FAR_BELOW = Integer.MIN_VALUE;

    private EdgesOfRows() {
    }

    static void all() {
        longest();
        longestForgets();
        longestOfTwo();
        home();
        homeForgets();
        homeFirst();
        homeNever();
        left();
        leftByTheBoat();
        circle();
        strangers();
        strangersFew();
        strangersNever();
        likely();
        lowestTerms();
        wanted();
        wantedFewer();
        book();
        read();
        price();
        answersOfHome();
        refusals();
    }

    // ---- what can be

    private static void longest() {
        Edge.says(Edge.TERMS, "LONGEST: the most CROSSINGS that some row of GROUPS can go on from now,");
        Edge.says(18, "LONGEST.");
        Edge.due("longest() of nobody", new OnlyStrangers().longest(), 0);
        Edge.due("longest() of one", Edge.crowd(1).longest(), 0);
        Edge.due("longest() of two", Edge.crowd(2).longest(), 1);
        OnlyStrangers x = Edge.people("01", "01", "01", "11", "11");
        Edge.due("longest() by all ten pairs", x.longest(), 10);
        x.meet(0, 1, true);
        Edge.due("longest() by nine", x.longest(), 9);
        x.boat(1);
        Edge.due("longest() from the other shore: 3 and 4, then two of theirs", x.longest(), longestOf(x));
        OnlyStrangers y = Edge.people("10", "10");
        Edge.due("longest() with the boat away", y.longest(), 0);
        y.boat(1);
        Edge.due("longest() with the boat there", y.longest(), 1);
        for (int scene = 0; scene < 32; scene++) {
            OnlyStrangers z = Edge.with(shores(scene), "holds " + (2 + scene % 3));
            z.meet(scene % 5, (scene + 1) % 5, true);
            z.meet(scene % 5, (scene + 2 + scene / 16) % 5, true);
            z.boat(scene >> 2 & 1);
            Edge.due("longest() by trying, scene " + scene, z.longest(), longestOf(z));
            Edge.with(z, "holds " + (2 + (scene + 1) % 3));
            Edge.due("longest() of the next parish, scene " + scene, z.longest(), longestOf(z));
            z.boat(1 - z.told(3));
            Edge.due("longest() from the other shore, scene " + scene, z.longest(), longestOf(z));
        }
    }

    /** Five people on shores that are told by bits. */
    private static OnlyStrangers shores(int across) {
        OnlyStrangers x = new OnlyStrangers();
        for (int p = 0; p < 5; p++) {
            x.person(across >> p & 1, across + p & 1);
        }
        return x;
    }

    /** Goes through all rows of crossings by the calls alone, where nobody forgets. */
    private static int longestOf(OnlyStrangers x) {
        int people = x.count(0);
        int[] met = new int[people];
        int across = 0;
        for (int p = 0; p < people; p++) {
            across |= x.of(p, 0) << p;
            for (int q = 0; q < people; q++) {
                met[p] |= q != p && x.pair(p, q, 0) + x.pair(p, q, 1) > 0 ? 1 << q : 0;
            }
        }
        return longestOf(met, across, x.told(3), Math.max(2, x.told(1)), x.told(0));
    }

    private static int longestOf(int[] met, int across, int boat, int least, int holds) {
        int most = 0;
        for (int group = 3; group < 1 << met.length; group++) {
            boolean may = (group & (boat == 0 ? across : ~across)) == 0;
            may &= Integer.bitCount(group) >= least && Integer.bitCount(group) <= holds;
            int[] then = met.clone();
            for (int p = 0; p < met.length; p++) {
                if ((group >> p & 1) == 1) {
                    may &= (met[p] & group) == 0;
                    then[p] |= group & ~(1 << p);
                }
            }
            if (may) {
                most = Math.max(most, 1 + longestOf(then, across ^ group, 1 - boat, least, holds));
            }
        }
        return most;
    }

    private static void longestForgets() {
        Edge.says(Edge.TERMS, "if nobody forgets any more (who KNOW one another now stay so),");
        OnlyStrangers x = Edge.with(Edge.people("01", "01", "11"), "forget 1");
        Edge.due("longest()", x.longest(), 2);
        x.meet(0, 1, true);
        Edge.due("longest() of such as would forget by a crossing", x.longest(), 0);
        x.meet(0, 1, false);
        x.meet(0, 2, true);
        x.meet(1, 2, true);
        Edge.due("longest(): 0 and 2, 1 and 2 stay so", x.longest(), 1);
        Edge.time(x, 0, 2);
        Edge.due("longest(): they have forgotten by now", x.longest(), 2);
        OnlyStrangers y = Edge.with(Edge.people("01", "01", "11", "11"), "forget 1");
        Edge.due("longest(): it ends, though they would meet over and over", y.longest(), longestOf(y));
        Edge.with(y, "holds 2");
        Edge.due("longest() without forgetting", y.longest(), longestOf(y));
        Edge.with(y, "forget 99");
        y.meet(0, 1, true);
        Edge.time(y, 0, 98);
        Edge.due("longest(), forget 99, behind 98", y.longest(), longestOf(y));
        Edge.due("pair(0, 1, 0)", y.pair(0, 1, 0), 1);
    }

    private static void longestOfTwo() {
        Edge.says(Edge.TERMS, "each of 2 or more (and of least).");
        Edge.due("longest() of three: none comes back alone", Edge.crowd(3).longest(), 1);
        int[][] due = {{0, 0, 0, 0, 0, 0}, {0, 0, 0, 0, 0, 0}, {10, 10, 10, 0, 0, 0}};
        for (int holds = 0; holds < 3; holds++) {
            for (int least = 0; least < 6; least++) {
                OnlyStrangers x = Edge.with(Edge.people("01", "01", "01", "11", "11"), "least " + least + ";holds " + holds);
                Edge.due("longest(), least " + least + ", holds " + holds, x.longest(), due[holds][least]);
            }
        }
        for (int holds = 3; holds < 7; holds++) {
            for (int least = 0; least < 7; least++) {
                OnlyStrangers x = Edge.with(Edge.people("01", "01", "01", "11", "11"), "least " + least + ";holds " + holds);
                Edge.due("longest(), least " + least + ", holds " + holds, x.longest(), longestOf(x));
            }
        }
        OnlyStrangers z = Edge.people("01", "01", "01", "11", "11");
        String[] texts = {"holds 1", "holds 2", "holds 1;least 0", "holds 5;least 3", "holds 2;least 3", "holds 2;least 0"};
        int[] next = {0, 10, 0, 2, 0, 10};
        for (int k = 0; k < texts.length; k++) {
            Edge.with(z, texts[k]);
            Edge.due("longest() of " + texts[k] + " behind another parish", z.longest(), next[k]);
        }
        OnlyStrangers y = Edge.with(Edge.crowd(5), "least 5;holds 99");
        Edge.due("longest() of all five", y.longest(), 1);
        Edge.with(y, "least 6;holds 99");
        Edge.due("longest(), six at least", y.longest(), 0);
        Edge.with(y, "holds 5;bar a<9");
        Edge.due("longest(), all barred", y.longest(), 0);
    }

    private static void dueHome(String what, OnlyStrangers x, int crossings, int first) {
        Edge.due("home(0) " + what, x.home(0), crossings);
        Edge.due("home(1) " + what, x.home(1), first);
    }

    private static void home() {
        Edge.says(Edge.TERMS, "HOME: the fewest CROSSINGS (0 .. 30) of some row of GROUPS that MAY go,");
        dueHome("of one", Edge.crowd(1), 1, 1);
        dueHome("of two", Edge.crowd(2), 1, 3);
        dueHome("of three", Edge.crowd(3), 3, 3);
        dueHome("of five", Edge.crowd(5), 7, 3);
        dueHome("of five at once", Edge.with(Edge.crowd(5), "holds 5"), 1, 31);
        dueHome("of such as change places", Edge.people("01", "10"), 2, 1);
        dueHome("of one who is with the boat and wants the other to come", Edge.people("00", "10"), 2, 1);
        // 0 knows all, and 4 alone is where the boat is: no row of any five is longer
        OnlyStrangers x = Edge.people("10", "10", "10", "10", "00");
        for (int p = 1; p < 5; p++) {
            x.meet(0, p, true);
        }
        dueHome("of the longest row there is", x, 10, 16);
        Edge.with(x, "bar a=0");
        for (int p = 1; p < 5; p++) {
            x.meet(0, p, false);
        }
        dueHome("of the longest row there is, by bars", x, 10, 16);
    }

    private static void homeForgets() {
        Edge.says(Edge.TERMS, "nobody forgetting any more, behind which all PEOPLE are where they WANT to be;");
        OnlyStrangers x = Edge.with(Edge.crowd(3), "forget 1");
        x.meet(0, 1, true);
        x.meet(0, 2, true);
        x.meet(1, 2, true);
        dueHome("of such as would forget", x, -5, -5);
        Edge.time(x, 2, 2);
        dueHome("of such as have forgotten by now", x, 3, 3);
        OnlyStrangers y = Edge.people("01", "00", "11");
        dueHome("of one who goes, two who stay", y, 1, 1);
        y.set(1, 1, 1);
        dueHome("of two who go", y, 1, 3);
        y.set(2, 1, 0);
        // 0 and 1 go, 2 comes: the boat is where it was
        dueHome("of two who go and one who comes", y, 2, 3);
    }

    private static void homeFirst() {
        Edge.says(Edge.TERMS, "the least GROUP (as bits) with which some such row begins (-5: there is no such row; 0 CROSSINGS: GROUP 0).");
        dueHome("of nobody", new OnlyStrangers(), 0, 0);
        dueHome("of all who are there", Edge.people("00", "11", "00", "11", "00"), 0, 0);
        OnlyStrangers away = Edge.people("00", "00");
        away.boat(1);
        dueHome("of all who are there, the boat away", away, 0, 0);
        dueHome("of all who are there, if none may", Edge.with(Edge.people("11", "00"), "holds 0"), 0, 0);
        OnlyStrangers x = Edge.crowd(3);
        x.meet(0, 1, true);
        dueHome("of three, 0 and 1 met", x, 3, 5);
        x.meet(0, 2, true);
        dueHome("of three, 0 met both", x, -5, -5);
        // 0 stays there: 1 or 2 goes with 3 first, or 0 does, who comes back
        OnlyStrangers y = Edge.people("00", "01", "01", "01");
        dueHome("of three by two, another one there", y, 3, 3);
        dueHome("of four by three", Edge.with(Edge.crowd(4), "holds 3"), 3, 3);
        dueHome("of one behind another", Edge.people("01", "11", "10"), 2, 1);
        OnlyStrangers z = Edge.with(Edge.crowd(3), "holds 2;least 0");
        dueHome("of three, least 0", z, 3, 3);
        z.meet(0, 1, true);
        z.meet(0, 2, true);
        dueHome("of three, 0 met both", z, -5, -5);
        for (int p = 0; p < 3; p++) {
            z.set(p, 1, 0);
        }
        dueHome("of all who are there now", z, 0, 0);
        z.set(0, 1, 1);
        dueHome("of one who goes", z, 1, 1);
        OnlyStrangers there = Edge.people("10", "10", "11", "00", "10");
        there.boat(1);
        dueHome("of three from shore 1", there, 3, 3);
        there.meet(0, 1, true);
        // 0 goes with 2, who comes back, then 1 with 4
        dueHome("of three from shore 1, 0 and 1 met", there, 3, 5);
        Edge.with(there, "holds 3");
        // 0 goes, 3 comes, who goes back with 1 and 4
        dueHome("of three from shore 1, 0 and 1 met, holds 3", there, 3, 1);
        there.meet(0, 1, false);
        dueHome("of three from shore 1, holds 3", there, 1, 19);
    }

    private static void homeNever() {
        Edge.says(Edge.TERMS, "(-5: there is no such row;");
        dueHome("if it holds nobody", Edge.with(Edge.crowd(2), "holds 0"), -5, -5);
        dueHome("if it holds one", Edge.with(Edge.crowd(2), "holds 1"), -5, -5);
        dueHome("of too few", Edge.with(Edge.crowd(2), "least 3;holds 3"), -5, -5);
        dueHome("of an odd one", Edge.with(Edge.crowd(3), "least 2"), -5, -5);
        dueHome("with the boat away", Edge.people("10", "10"), -5, -5);
        dueHome("of barred ones", Edge.with(Edge.crowd(2), "bar a=0"), -5, -5);
        dueHome("of one alone for whom the boat has to come back", Edge.people("00", "10", "10"), 4, 1);
    }

    private static void left() {
        Edge.says(Edge.TERMS, "LEFT: PEOPLE who, nobody forgetting any more, can never be in a GROUP of 2 or more again,");
        Edge.says(20, "LEFT, as bits.");
        Edge.due("left() of nobody", new OnlyStrangers().left(), 0);
        Edge.due("left() of one", Edge.crowd(1).left(), 1);
        Edge.due("left() of two", Edge.crowd(2).left(), 0);
        OnlyStrangers x = Edge.crowd(5);
        Edge.due("left() of five", x.left(), 0);
        for (int p = 0; p < 4; p++) {
            x.meet(4, p, true);
        }
        Edge.due("left(): 4 met all", x.left(), 16);
        x.meet(0, 1, true);
        x.meet(0, 2, true);
        x.meet(0, 3, true);
        Edge.due("left(): 0 met all, too", x.left(), 17);
        x.meet(1, 2, true);
        x.meet(1, 3, true);
        Edge.due("left(): 2 and 3 alone are strangers", x.left(), 19);
        x.meet(2, 3, true);
        Edge.due("left(): all met", x.left(), 31);
        OnlyStrangers y = Edge.with(Edge.crowd(3), "forget 2;bar b=2");
        y.meet(0, 1, true);
        Edge.due("left(): 0 and 1 would forget", y.left(), 7);
        Edge.time(y, 0, 2);
        Edge.due("left(): they have forgotten, 2 is barred", y.left(), 4);
        // 0 and 1 meet by their crossing only once, but that is once
        Edge.due("left(): 0 and 1 once", Edge.with(Edge.crowd(2), "least 2").left(), 0);
    }

    private static void leftByTheBoat() {
        Edge.says(Edge.TERMS, "THE BOAT going with GROUPS alone, by no row of GROUPS that MAY go, as bits.");
        OnlyStrangers x = Edge.crowd(3);
        x.boat(1);
        Edge.due("left(): nobody is with the boat", x.left(), 7);
        x.set(0, 0, 1);
        Edge.due("left(): 0 brings the boat", x.left(), 0);
        Edge.with(x, "least 2");
        Edge.due("left(): 0 can't go alone", x.left(), 7);
        x.boat(0);
        Edge.due("left(): 1 and 2 go to 0, then 0 comes with one", x.left(), 0);
        x.meet(0, 1, true);
        x.meet(0, 2, true);
        Edge.due("left(): 1 and 2 go, 0 met them", x.left(), 1);
        Edge.due("left(), holds 1", Edge.with(Edge.crowd(3), "holds 1").left(), 7);
        Edge.due("left(), holds 0", Edge.with(Edge.crowd(3), "holds 0").left(), 7);
        Edge.due("left(), more at least than are there", Edge.with(Edge.crowd(3), "least 4;holds 5").left(), 7);
        Edge.due("left(), three at once", Edge.with(Edge.crowd(3), "least 3;holds 3").left(), 0);
        OnlyStrangers many = Edge.crowd(5);
        String[] texts = {"holds 5;least 0", "holds 1;least 0", "holds 5;least 5", "holds 4;least 5", "least 0"};
        int[] due = {0, 31, 0, 31, 0};
        for (int k = 0; k < texts.length; k++) {
            Edge.with(many, texts[k]);
            Edge.due("left() of " + texts[k] + " behind another parish", many.left(), due[k]);
        }
        many.meet(0, 1, true);
        Edge.with(many, "holds 5;least 5");
        Edge.due("left(): only all five at once, 0 met 1", many.left(), 31);
        OnlyStrangers y = Edge.with(Edge.crowd(4), "least 3;holds 3");
        y.meet(0, 1, true);
        Edge.due("left(): 2 and 3 with 0 or 1", y.left(), 0);
        y.meet(2, 0, true);
        Edge.due("left(): 1, 2 and 3", y.left(), 1);
        // two shores, each with one: one goes to the other, and comes back with that one
        Edge.due("left(): one fetches the other", Edge.people("01", "11").left(), 0);
        // from shore 1 but by twos: 0 and 1 come, then one of them goes with 2
        OnlyStrangers z = Edge.with(Edge.people("10", "10", "00"), "least 2");
        z.boat(1);
        Edge.due("left(): two come, one goes with 2", z.left(), 0);
        z.meet(0, 2, true);
        Edge.due("left(): two come, 1 goes with 2", z.left(), 0);
        z.meet(1, 2, true);
        Edge.due("left(): two come, 2 met both", z.left(), 4);
        z.meet(1, 0, true);
        Edge.due("left(): all met", z.left(), 7);
    }

    private static void circle() {
        Edge.says(Edge.TERMS, "CIRCLE: the most PEOPLE of whom no two KNOW one another, or are BARRED, wherever they are; of several the least as bits.");
        Edge.says(21, "CIRCLE, as bits.");
        int[] due = {0, 1, 3, 7, 15, 31};
        for (int people = 0; people <= 5; people++) {
            Edge.due("circle() of " + people, Edge.crowd(people).circle(), due[people]);
        }
        OnlyStrangers x = Edge.people("00", "10", "01", "11", "00");
        Edge.due("circle() wherever they are", x.circle(), 31);
        x.boat(1);
        Edge.due("circle() wherever the boat is", x.circle(), 31);
        x.meet(0, 4, true);
        Edge.due("circle() without 0 or 4: the least", x.circle(), 15);
        x.meet(1, 0, true);
        Edge.due("circle() without 0: the most", x.circle(), 30);
        x.meet(2, 3, true);
        Edge.due("circle() of three", x.circle(), 22);
        Edge.with(x, "bar a=1&b=4;bar a=1&b=2");
        // 0 1 4 are not to be together but for 0 and 2, 0 and 3, 1 and 3, 2 and 4, 3 and 4
        Edge.due("circle() of two: the least", x.circle(), 5);
        Edge.with(x, "bar a<9");
        Edge.due("circle(), all barred", x.circle(), 1);
        Edge.with(x, "holds 0;least 9;forget 1");
        Edge.due("circle(), whatever it holds", x.circle(), 22);
        Edge.with(x, "holds 1;forget 2");
        x.boat(0);
        x.cross(1);
        Edge.due("circle(), one crossing behind", x.circle(), 22);
        x.boat(0);
        x.cross(16);
        Edge.due("circle() of such as forgot", x.circle(), 31);
    }

    private static void strangers() {
        Edge.says(Edge.TERMS, "STRANGERS needed: the least n (0 .. 4) such that, if n more came to THE BOAT's SHORE who know nobody (never BARRED, WANTING nothing), some GROUP of as many as it holds could go now (");
        Edge.says(22, "STRANGERS needed; -5.");
        for (int people = 0; people <= 5; people++) {
            OnlyStrangers x = Edge.with(Edge.crowd(people), "holds 1");
            Edge.due("strangers() of " + people + ", holds 1", x.strangers(), people > 0 ? 0 : 1);
            for (int holds = 2; holds < 6; holds++) {
                Edge.with(x, "holds " + holds);
                int due = Math.max(0, holds - people);
                Edge.due("strangers() of " + people + ", holds " + holds, x.strangers(), due > 4 ? -5 : due);
            }
        }
        OnlyStrangers y = Edge.with(Edge.people("00", "10", "00"), "holds 3");
        Edge.due("strangers() where two are", y.strangers(), 1);
        y.boat(1);
        Edge.due("strangers() where one is", y.strangers(), 2);
        Edge.with(y, "holds 3;bar a<9");
        Edge.due("strangers() where one is, barred all", y.strangers(), 2);
        y.boat(0);
        Edge.due("strangers() where two are, barred", y.strangers(), 2);
        Edge.with(y, "holds 3;forget 1");
        y.meet(0, 2, true);
        Edge.due("strangers() where two are who met", y.strangers(), 2);
        y.cross(1);
        y.cross(1);
        Edge.due("strangers() where two are who forgot", y.strangers(), 1);
    }

    private static void strangersFew() {
        Edge.says(Edge.TERMS, "the least n (0 .. 4)");
        int[] due = {0, 1, 2, 3, 4, -5, -5};
        for (int more = 0; more < due.length; more++) {
            OnlyStrangers x = Edge.with(Edge.crowd(5), "holds " + (5 + more));
            Edge.due("strangers() of five, holds " + (5 + more), x.strangers(), due[more]);
        }
        OnlyStrangers y = Edge.with(Edge.crowd(5), "holds 99");
        Edge.due("strangers() of five, holds 99", y.strangers(), -5);
        Edge.with(y, "holds 5");
        y.boat(1);
        Edge.due("strangers() where nobody is, holds 5", y.strangers(), -5);
        Edge.with(y, "holds 4");
        Edge.due("strangers() where nobody is, holds 4", y.strangers(), 4);
        Edge.due("strangers() of nobody", new OnlyStrangers().strangers(), 2);
    }

    private static void strangersNever() {
        Edge.says(Edge.TERMS, "(-5: by none; also if it holds nobody, or fewer than least).");
        for (int people = 0; people <= 5; people++) {
            for (String text : new String[] {"holds 0", "holds 0;least 0", "holds 2;least 3", "holds 1;least 2", "holds 4;least 99"}) {
                Edge.due("strangers() of " + people + ", " + text, Edge.with(Edge.crowd(people), text).strangers(), -5);
            }
            OnlyStrangers x = Edge.with(Edge.crowd(people), "holds 4;least 4");
            Edge.due("strangers() of " + people + ", holds 4, least 4", x.strangers(), Math.max(0, 4 - people));
            Edge.with(x, "holds 1;least 0");
            Edge.due("strangers() of " + people + ", holds 1, least 0", x.strangers(), people > 0 ? 0 : 1);
        }
    }

    // ---- lots

    private static void dueLikely(String what, OnlyStrangers x, int n, long above, long below) {
        Edge.due("likely(" + n + ", 0) " + what, x.likely(n, 0), above);
        Edge.due("likely(" + n + ", 1) " + what, x.likely(n, 1), below);
    }

    private static void dueWanted(String what, OnlyStrangers x, int n, long above, long below) {
        Edge.due("wanted(" + n + ", 0) " + what, x.wanted(n, 0), above);
        Edge.due("wanted(" + n + ", 1) " + what, x.wanted(n, 1), below);
    }

    private static void likely() {
        Edge.says(Edge.TERMS, "LIKELY of n (1 .. 3): if of all GROUPS that MAY go one goes by lot, each as likely, and so on: how likely n CROSSINGS go:");
        for (int n = 1; n < 4; n++) {
            dueLikely("of nobody", new OnlyStrangers(), n, 0, 1);
            dueLikely("of one", Edge.crowd(1), n, 1, 1);
            dueLikely("with the boat away", Edge.people("10", "10"), n, 0, 1);
            dueLikely("of two at once", Edge.with(Edge.crowd(2), "least 2"), n, n == 1 ? 1 : 0, 1);
        }
        OnlyStrangers x = Edge.with(Edge.people("01", "01", "11"), "least 2;forget 1");
        x.meet(0, 2, true);
        x.meet(1, 2, true);
        dueLikely("of such as forget by the first", x, 2, 1, 1);
        Edge.with(x, "least 2;forget 2");
        dueLikely("of such as don't", x, 2, 0, 1);
        // 0 1, 0 2 or 1 2 go; 3 across knows 0: behind 0 1 just 1 3 goes, behind 0 2 2 3, behind 1 2 either: always two
        OnlyStrangers y = Edge.with(Edge.people("01", "01", "01", "11"), "least 2");
        y.meet(0, 3, true);
        dueLikely("of four", y, 2, 1, 1);
        y.meet(1, 3, true);
        // behind 0 1 none
        dueLikely("of four, 3 knows two", y, 2, 2, 3);
        y.meet(2, 3, true);
        dueLikely("of four, 3 knows all", y, 2, 0, 1);
        OnlyStrangers z = Edge.with(Edge.people("01", "01", "00", "10"), "least 2");
        z.meet(1, 2, true);
        z.meet(2, 3, true);
        dueLikely("of four", z, 1, 1, 1);
        dueLikely("of four", z, 2, 1, 1);
        // 0 1 go, 0 3 come, then 0 2; or 1 3 come, then none; 0 2 go, 0 3 come, then 0 1 or 1 3
        dueLikely("of four", z, 3, 3, 4);
        Edge.says(24, "LIKELY of n; part 0 above, 1 below the line. NO.");
        for (int part = 0; part < 2; part++) {
            for (int no : new int[] {-1, 0, 4, 5, FAR, FAR_BELOW}) {
                Edge.due("likely(" + no + ", " + part + ")", y.likely(no, part), OnlyStrangers.NO);
            }
        }
        for (int no : new int[] {-1, 2, FAR, FAR_BELOW}) {
            Edge.due("likely(1, " + no + ")", y.likely(1, no), OnlyStrangers.NO);
        }
    }

    private static long divisor(long a, long b) {
        return b == 0 ? a : divisor(b, a % b);
    }

    private static void lowestTerms() {
        Edge.says(Edge.TERMS, "a fraction in lowest terms. WANTED");
        Edge.says(Edge.TERMS, "a fraction in lowest terms. A BOOK");
        for (int scene = 0; scene < 12; scene++) {
            OnlyStrangers x = Edge.with(Edge.people("01", (scene & 1) + "0", "01", "11", "00"), "holds " + (2 + scene % 4)
                + ";least " + (1 + scene % 2));
            x.meet(scene % 3, 3 + scene % 2, true);
            for (int n = 1; n < 4; n++) {
                Edge.due("likely(" + n + ") in lowest terms", divisor(x.likely(n, 1), x.likely(n, 0)), 1);
                Edge.due("likely(" + n + ") above 0 below", x.likely(n, 1) > 0 ? 1 : 0, 1);
                Edge.due("likely(" + n + ") is 1 at most", x.likely(n, 0) <= x.likely(n, 1) ? 1 : 0, 1);
            }
            for (int n = 0; n < 3; n++) {
                Edge.due("wanted(" + n + ") in lowest terms", divisor(x.wanted(n, 1), x.wanted(n, 0)), 1);
                Edge.due("wanted(" + n + ") above 0 below", x.wanted(n, 1) > 0 ? 1 : 0, 1);
            }
        }
        dueWanted("of none who is there", Edge.crowd(5), 0, 0, 1);
        dueWanted("of five who are there", Edge.people("00", "00", "11", "00", "11"), 0, 5, 1);
        dueWanted("of all five by lot", Edge.with(Edge.crowd(5), "holds 5"), 1, 80, 31);
    }

    private static void wanted() {
        Edge.says(Edge.TERMS, "WANTED: the mean of how many are where they WANT to be behind n (0 .. 2) such (");
        OnlyStrangers x = Edge.people("01", "00", "11");
        dueWanted("of three", x, 0, 2, 1);
        // behind 0: 3; behind 1: 1; behind both: 2
        dueWanted("of three", x, 1, 2, 1);
        // behind 0: 0, 2, both come: 2, 2, 1; behind 1: 1, 2, both come: 2, 0, 1; behind 0 and 1, who know one another
        // then: 0, 1, 2, 0 2, 1 2 come: 1, 3, 1, 0, 2
        dueWanted("of three", x, 2, 61, 45);
        OnlyStrangers y = Edge.with(Edge.crowd(2), "least 2");
        dueWanted("of two", y, 0, 0, 1);
        dueWanted("of two", y, 1, 2, 1);
        dueWanted("of nobody", new OnlyStrangers(), 0, 0, 1);
        dueWanted("of nobody", new OnlyStrangers(), 2, 0, 1);
        Edge.says(25, "WANTED behind n; part likewise. NO.");
        for (int part = 0; part < 2; part++) {
            for (int no : new int[] {-1, 3, 4, FAR, FAR_BELOW}) {
                Edge.due("wanted(" + no + ", " + part + ")", y.wanted(no, part), OnlyStrangers.NO);
            }
        }
        for (int no : new int[] {-1, 2, FAR, FAR_BELOW}) {
            Edge.due("wanted(0, " + no + ")", y.wanted(0, no), OnlyStrangers.NO);
        }
    }

    private static void wantedFewer() {
        Edge.says(Edge.TERMS, "(fewer, if none MAY go any more):");
        OnlyStrangers x = Edge.with(Edge.crowd(2), "least 2");
        dueWanted("of two: the second can't go", x, 2, 2, 1);
        x.boat(1);
        dueWanted("of two: the first can't go", x, 1, 0, 1);
        dueWanted("of two: none can go", x, 2, 0, 1);
        OnlyStrangers y = Edge.with(Edge.people("01", "01", "01", "10"), "least 2");
        y.meet(3, 0, true);
        y.meet(3, 1, true);
        // 0 1 go: 2, and none comes; 0 2 go, and 2 3 come: 2; 1 2 go, and 2 3 come: 2
        dueWanted("of four", y, 2, 2, 1);
        y.set(2, 1, 0);
        // 0 1 go: 3; 0 2 or 1 2 go, 2 3 come: 1 and both of these: 3
        dueWanted("of four, 2 wants to stay", y, 2, 3, 1);
        y.set(3, 1, 1);
        // 0 1 go: 4; else 2
        dueWanted("of four, 3 wants to stay, too", y, 2, 8, 3);
    }

    // ---- books, prices

    private static void book() {
        Edge.says(Edge.TERMS, "A BOOK told by hand: GROUPS (12 at most):");
        Edge.says(26, "A GROUP comes to the BOOK: how many there are (-1: it is empty then, 0).");
        OnlyStrangers x = new OnlyStrangers();
        Edge.due("book(-1) of none", x.book(-1), 0);
        for (int k = 1; k <= 12; k++) {
            Edge.due("book() of the " + k + "th", x.book(k), k);
            Edge.due("count(3)", x.count(3), k);
        }
        Edge.due("book() of the 13th", x.book(1), -4);
        Edge.due("count(3)", x.count(3), 12);
        Edge.due("book(-1)", x.book(-1), 0);
        Edge.due("count(3)", x.count(3), 0);
        Edge.due("book(31)", x.book(31), 1);
        Edge.says(26, "BAD: not 1 .. 31; FULL: 12.");
        OnlyStrangers y = new OnlyStrangers();
        for (int k = 0; k <= 13; k++) {
            for (int no : new int[] {0, 32, 33, 63, 64, -2, -31, FAR, FAR_BELOW}) {
                Edge.due("book(" + no + ")", y.book(no), -2);
            }
            Edge.due("count(3)", y.count(3), Math.min(12, k));
            Edge.due("book(" + (31 - k) + ")", y.book(31 - k), k < 12 ? k + 1 : -4);
        }
    }

    private static void read() {
        Edge.says(Edge.TERMS, "READ: how many of the first can go one behind the other from now.");
        Edge.says(27, "READ.");
        Edge.due("readBook() of none", Edge.crowd(2).readBook(), 0);
        OnlyStrangers x = Edge.crowd(1);
        for (int k = 1; k <= 12; k++) {
            x.book(1);
            Edge.due("readBook() of " + k, x.readBook(), k);
        }
        x.book(-1);
        Edge.due("readBook() of none any more", x.readBook(), 0);
        x.book(1);
        x.book(1);
        Edge.due("readBook() of two behind twelve", x.readBook(), 2);
        for (int k = 3; k <= 12; k++) {
            x.book(1);
        }
        x.boat(1);
        Edge.due("readBook() with the boat away", x.readBook(), 0);
        x.set(0, 0, 1);
        Edge.due("readBook() from there", x.readBook(), 12);
        OnlyStrangers y = Edge.crowd(2);
        int[] groups = {3, 1, 1, 3};
        for (int group : groups) {
            y.book(group);
        }
        Edge.due("readBook() up to such as met", y.readBook(), 3);
        Edge.with(y, "forget 3");
        Edge.due("readBook() up to such as forget one later", y.readBook(), 3);
        Edge.with(y, "forget 2");
        Edge.due("readBook() of such as forget just then", y.readBook(), 4);
        y.book(-1);
        for (int group : new int[] {3, 1, 2, 3, 1}) {
            y.book(group);
        }
        Edge.due("readBook(): 1 does not come with the boat", y.readBook(), 2);
        y.book(-1);
        Edge.due("readBook() of none any more", y.readBook(), 0);
        y.book(3);
        Edge.due("readBook() of the one that is told now", y.readBook(), 1);
        OnlyStrangers z = Edge.with(Edge.people("01", "11"), "forget 2");
        z.meet(0, 1, true);
        for (int group : new int[] {1, 3, 3, 4}) {
            z.book(group);
        }
        Edge.due("readBook(): one behind they still know", z.readBook(), 1);
        Edge.with(z, "forget 1");
        Edge.due("readBook(): they forgot, and met again", z.readBook(), 2);
        z.book(-1);
        z.book(16);
        Edge.due("readBook() of one who is not there", z.readBook(), 0);
        z.book(-1);
        Edge.due("readBook() of none", z.readBook(), 0);
    }

    private static void price() {
        Edge.says(Edge.TERMS, "PRICE of a pair: how much shorter LONGEST is, if they KNEW one another now.");
        Edge.says(23, "PRICE of a pair. NONE; BAD: one person.");
        for (int scene = 0; scene < 8; scene++) {
            OnlyStrangers x = Edge.people("01", (scene & 1) + "1", (scene >> 1 & 1) + "1", (scene >> 2) + "1");
            Edge.with(x, scene % 2 == 0 ? "holds 2" : "holds 3;bar a=1&b=3");
            int longest = x.longest();
            for (int a = 0; a < 4; a++) {
                for (int b = 0; b < 4; b++) {
                    if (a != b) {
                        int price = x.price(a, b);
                        x.meet(a, b, true);
                        Edge.due("price(" + a + ", " + b + "), scene " + scene, price, longest - x.longest());
                        Edge.due("price() of such as met", x.price(b, a), 0);
                        x.meet(a, b, false);
                    }
                }
            }
        }
        OnlyStrangers y = Edge.with(Edge.people("01", "01", "11"), "forget 1");
        Edge.due("price(0, 1)", y.price(0, 1), 2);
        Edge.due("price(0, 2): 1 and 2 go as well", y.price(0, 2), 0);
        y.meet(1, 2, true);
        Edge.due("price(0, 2): nobody forgets any more", y.price(0, 2), 1);
        Edge.due("price(1, 2) of such as met", y.price(1, 2), 0);
        for (int no : new int[] {-1, 3, 4, FAR, FAR_BELOW}) {
            Edge.due("price(" + no + ", 0)", y.price(no, 0), -1);
            Edge.due("price(0, " + no + ")", y.price(0, no), -1);
            Edge.due("price(" + no + ", " + no + "): NONE comes first", y.price(no, no), -1);
        }
        for (int p = 0; p < 3; p++) {
            Edge.due("price(" + p + ", " + p + ")", y.price(p, p), -2);
        }
        Edge.due("price(0, 0) of nobody", new OnlyStrangers().price(0, 0), -1);
    }

    private static void answersOfHome() {
        Edge.says(19, "HOME: what 0 how many CROSSINGS, 1 the first GROUP; -5.");
        dueHome("of four by two", Edge.crowd(4), 5, 3);
        dueHome("of four by one", Edge.with(Edge.crowd(4), "holds 1"), -5, -5);
    }

    private static void refusals() {
        Edge.says(19, "NONE.");
        for (int no : new int[] {-1, 2, 3, FAR, FAR_BELOW}) {
            Edge.due("home(" + no + ")", Edge.crowd(2).home(no), -1);
            Edge.due("home(" + no + ") of nobody", new OnlyStrangers().home(no), -1);
        }
    }
}
