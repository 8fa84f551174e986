/** Sentences of the Terms that tell what a parish is; promises 7 and 8. */
final class EdgesOfTexts {
    private static final String TESTED = "abnwsc";
    private static final String STARTS = "abnwsc!(";
    private static final String DIGITS = "0123456789";

    /** Whether something is due of a pair, the lesser one first. */
    interface Pair {
        boolean is(int a, int b);
    }

    private EdgesOfTexts() {
    }

    static void all() {
        hundredBytes();
        oneToTenClauses();
        kindsOfClauses();
        oneBlank();
        oneOrTwoDigits();
        orOverAnd();
        oneOfSixLetters();
        smallerSameGreater();
        lesserAndGreater();
        valuesOfGroups();
        groupsByTests();
        crossingsModulo60();
        notOfIt();
        fourDeep();
        faultByFirstByte();
        faultByEnd();
        newestHolds();
        withoutOne();
        lastOfSeveral();
        someBar();
        allWorth();
        signs();
        textIsEmptyThen();
        sixParishes();
        faultChangesNothing();
    }

    private static void dueFault(String text, int place) {
        Edge.due("parish() of " + text, Edge.parish(new OnlyStrangers(), text), -10 - place);
    }

    private static void dueParish(String text) {
        Edge.due("parish() of " + text, Edge.parish(new OnlyStrangers(), text), 0);
    }

    private static void dueBars(String text, Pair due) {
        OnlyStrangers x = Edge.with(Edge.crowd(5), text);
        for (int b = 1; b < 5; b++) {
            for (int a = 0; a < b; a++) {
                Edge.due(text + ": pair(" + a + ", " + b + ", 1)", x.pair(a, b, 1), due.is(a, b) ? 1 : 0);
            }
        }
    }

    private static String repeated(String part, int times) {
        return new String(new char[times]).replace("\0", part);
    }

    // ---- what a text may be

    private static void hundredBytes() {
        Edge.says(Edge.TERMS, "A PARISH is read from THE TEXT (bytes, 100 at most)");
        dueParish("bar a=1" + repeated("|a=1", 23));
        String full = "bar a=01" + repeated("|a=1", 22) + "|b=4";
        Edge.due("bytes", full.length(), 100);
        OnlyStrangers x = Edge.crowd(5);
        Edge.feed(x, full);
        Edge.due("count(4)", x.count(4), 100);
        Edge.due("feed() of one more", x.feed('0'), -4);
        Edge.due("parish() of 100 bytes", x.parish(), 0);
        Edge.due("pair(0, 4, 1) by the last bytes", x.pair(0, 4, 1), 1);
        Edge.due("pair(0, 3, 1)", x.pair(0, 3, 1), 0);
        dueFault("bar a=1|" + repeated("(a=1)&", 15) + "a", 99);
        dueFault("bar a=01" + repeated("|a=1", 22) + "|b==", 99);
    }

    private static void oneToTenClauses() {
        Edge.says(Edge.TERMS, "CLAUSES, 1 to 10, with ; between");
        dueFault("", 0);
        dueParish("holds 1");
        String ten = "least 1" + repeated(";least 1", 9);
        dueParish(ten);
        dueFault(ten + ";least 1", ten.length());
        dueFault(ten + ";", ten.length());
        dueFault(";", 0);
        dueFault(";holds 1", 0);
        dueFault("holds 1;", 8);
        dueFault("holds 1;;holds 2", 8);
        dueFault("holds 1,holds 2", 7);
        dueFault("holds 1holds 2", 7);
        String bars = "bar a=1" + repeated(";bar a=1", 9);
        dueParish(bars);
        dueFault(bars + ";bar a=1", bars.length());
        Edge.due("the tenth counts", Edge.with(new OnlyStrangers(), "least 1" + repeated(";least 1", 8) + ";least 7").told(1), 7);
    }

    private static void kindsOfClauses() {
        Edge.says(Edge.TERMS, ": holds n; least n; forget n; bar E; worth n E (");
        OnlyStrangers x = Edge.with(Edge.crowd(3), "holds 4");
        Edge.due("told(0)", x.told(0), 4);
        Edge.with(x, "least 3");
        Edge.due("told(1)", x.told(1), 3);
        Edge.with(x, "forget 8");
        Edge.due("told(2)", x.told(2), 8);
        Edge.with(x, "bar a=1");
        Edge.due("pair(1, 2, 1)", x.pair(1, 2, 1), 1);
        Edge.with(x, "worth 6 n=1");
        Edge.due("group(2, 1)", x.group(2, 1), 6);
        String[] words = {"holds", "least", "forget", "bar", "worth"};
        for (String word : words) {
            for (int k = 0; k < word.length(); k++) {
                dueFault(word.substring(0, k), k);
                dueFault(word.substring(0, k) + "x 1", k);
                dueFault(word.substring(0, k) + Character.toUpperCase(word.charAt(k)), k);
            }
            dueFault(word, word.length());
            dueFault(word + "s", word.length());
            dueFault(word + " ", word.length() + 1);
        }
        dueFault("bar 1", 4);
        dueFault("bar 1 a=1", 4);
        dueFault("holds a=1", 6);
        dueFault("worth a=1", 6);
        dueFault("holds 1 a=1", 7);
        dueFault("worth 1", 7);
        dueFault("worth 1 ", 8);
        dueFault("worth 1 2", 8);
    }

    private static void oneBlank() {
        Edge.says(Edge.TERMS, "(one blank ahead of each part behind the word;");
        String[] words = {"holds", "least", "forget"};
        for (String word : words) {
            dueParish(word + " 1");
            dueFault(word + "1", word.length());
            dueFault(word + "  1", word.length() + 1);
            dueFault(word + "\t1", word.length());
            dueFault(" " + word + " 1", 0);
            dueFault(word + " 1 ", word.length() + 2);
            dueFault(word + " 1 ;holds 1", word.length() + 2);
            dueFault(word + " 1; holds 1", word.length() + 3);
        }
        dueFault("bara=1", 3);
        dueFault("bar  a=1", 4);
        dueFault("worth1 n=1", 5);
        dueFault("worth  1 n=1", 6);
        dueFault("worth 1n=1", 7);
        dueFault("worth 12n=1", 8);
        dueFault("worth 1  n=1", 8);
        dueFault("bar a =1", 5);
        dueFault("bar a= 1", 6);
        dueFault("bar a=1 |b=1", 7);
        dueFault("bar a=1| b=1", 8);
        dueFault("bar ( a=1)", 5);
        dueFault("bar ! a=1", 5);
    }

    private static void oneOrTwoDigits() {
        Edge.says(Edge.TERMS, "n 1 or 2 digits)");
        String[] words = {"holds ", "least ", "forget "};
        for (int what = 0; what < words.length; what++) {
            String word = words[what];
            for (String n : new String[] {"0", "1", "9", "00", "09", "10", "47", "99"}) {
                OnlyStrangers x = Edge.with(new OnlyStrangers(), word + n);
                Edge.due("told(" + what + ") of " + word + n, x.told(what), Integer.parseInt(n));
            }
            dueFault(word, word.length());
            dueFault(word + ";", word.length());
            dueFault(word + "-1", word.length());
            dueFault(word + "x", word.length());
            dueFault(word + "100", word.length() + 2);
            dueFault(word + "001", word.length() + 2);
            dueFault(word + "1x", word.length() + 1);
            dueFault(word + "/", word.length());
            dueFault(word + ":", word.length());
        }
        for (String n : new String[] {"0", "7", "00", "07", "99"}) {
            OnlyStrangers x = Edge.with(Edge.crowd(1), "worth " + n + " n=1");
            Edge.due("group(1, 1) of worth " + n, x.group(1, 1), Integer.parseInt(n));
        }
        dueFault("worth  n=1", 6);
        dueFault("worth 100 n=1", 8);
    }

    private static void orOverAnd() {
        Edge.says(Edge.TERMS, "E: T or T|E. T: F or F&T.");
        dueBars("bar a=0|a=1&b=2", (a, b) -> a == 0 || a == 1 && b == 2);
        dueBars("bar a=1&b=2|a=0", (a, b) -> a == 0 || a == 1 && b == 2);
        dueBars("bar a=0|b=2&a=1|b=4", (a, b) -> a == 0 || b == 2 && a == 1 || b == 4);
        dueBars("bar b>1&a<2|a>2&b=4", (a, b) -> b > 1 && a < 2 || a > 2);
        dueBars("bar (a=0|a=1)&b=2", (a, b) -> a < 2 && b == 2);
        dueBars("bar !a=0&b=2", (a, b) -> a != 0 && b == 2);
        dueBars("bar !(a=0&b=2)", (a, b) -> !(a == 0 && b == 2));
        dueBars("bar !a=0|b=2", (a, b) -> a != 0 || b == 2);
        dueBars("bar " + repeated("a=9|", 23) + "b=3", (a, b) -> b == 3);
        dueBars("bar b=3" + repeated("|a=9", 23), (a, b) -> b == 3);
        dueBars("bar " + repeated("a<9&", 23) + "b=3", (a, b) -> b == 3);
        dueBars("bar b=3" + repeated("&a<9", 23), (a, b) -> b == 3);
        for (String sign : new String[] {"|", "&"}) {
            dueFault("bar " + sign + "a=0", 4);
            dueFault("bar a=0" + sign, 8);
            dueFault("bar a=0" + sign + "|b=1", 8);
            dueFault("bar a=0" + sign + "&b=1", 8);
            dueFault("bar a=0" + sign + ")", 8);
            dueFault("bar a=0" + sign + ";bar b=1", 8);
        }
        dueFault("bar a=0b=1", 7);
        dueFault("bar a=0(b=1)", 7);
        dueFault("bar a=0!b=1", 7);
    }

    private static void oneOfSixLetters() {
        Edge.says(Edge.TERMS, "F: !F, (E), or a TEST: one of these letters, < or = or >, a number (1 or 2 digits)");
        for (char c = 0; c < 128; c++) {
            String shown = "sign " + (int) c;
            int asLetter = Edge.parish(new OnlyStrangers(), "bar " + c + "=1");
            boolean letter = TESTED.indexOf(c) >= 0;
            Edge.due(shown + " as a letter", asLetter, letter ? 0 : c == '!' || c == '(' ? -15 : -14);
            int asSign = Edge.parish(new OnlyStrangers(), "bar a" + c + "1");
            Edge.due(shown + " behind a letter", asSign, "<=>".indexOf(c) >= 0 ? 0 : -15);
            int asDigit = Edge.parish(new OnlyStrangers(), "bar a=" + c);
            Edge.due(shown + " as a number", asDigit, DIGITS.indexOf(c) >= 0 ? 0 : -16);
        }
        dueParish("bar !a=1");
        dueParish("bar (a=1)");
        dueParish("worth 1 !(a=1|!b=2)&(c<3)");
        dueFault("bar a", 5);
        dueFault("bar a=", 6);
        dueFault("bar a<=1", 6);
        dueFault("bar a=-1", 6);
        dueFault("bar a=b", 6);
        dueParish("bar a=12");
        dueFault("bar a=123", 8);
        dueFault("bar 1=a", 4);
        dueFault("bar ()", 5);
        dueFault("bar (a=1", 8);
        dueFault("bar a=1)", 7);
        dueFault("bar (a=1))", 9);
        dueFault("bar !", 5);
        dueFault("bar !|a=1", 5);
        dueFault("bar (a=1;bar b=1)", 8);
    }

    private static void smallerSameGreater() {
        Edge.says(Edge.TERMS, "< or = or >, a number (1 or 2 digits)");
        for (int n = 0; n < 6; n++) {
            int number = n;
            dueBars("bar b<" + n, (a, b) -> b < number);
            dueBars("bar b=" + n, (a, b) -> b == number);
            dueBars("bar b>" + n, (a, b) -> b > number);
            dueBars("bar a<0" + n, (a, b) -> a < number);
            dueBars("bar a=0" + n, (a, b) -> a == number);
            dueBars("bar a>0" + n, (a, b) -> a > number);
        }
        dueBars("bar b=12", (a, b) -> false);
        dueBars("bar b=40", (a, b) -> false);
        dueBars("bar b<10", (a, b) -> true);
    }

    // ---- what a text says

    private static void lesserAndGreater() {
        Edge.says(Edge.TERMS, "of a pair a the lesser, b the greater one");
        OnlyStrangers x = Edge.with(Edge.crowd(5), "bar a=1&b=3");
        Edge.due("pair(1, 3, 1)", x.pair(1, 3, 1), 1);
        Edge.due("pair(3, 1, 1)", x.pair(3, 1, 1), 1);
        Edge.with(x, "bar a=3&b=1");
        Edge.due("pair(1, 3, 1)", x.pair(1, 3, 1), 0);
        Edge.due("pair(3, 1, 1)", x.pair(3, 1, 1), 0);
        dueBars("bar a>3|b<1", (a, b) -> false);
        dueBars("bar a<4&b>0", (a, b) -> true);
    }

    private static void valuesOfGroups() {
        Edge.says(Edge.TERMS, "of a GROUP n how many they are, w how many of them WANT the other SHORE, s the SHORE from which they go");
        for (int boat = 0; boat < 2; boat++) {
            int wantOther = boat == 0 ? 0b10101 : 0b01010;
            for (String text : new String[] {"n", "w", "s"}) {
                OnlyStrangers y = Edge.people("01", "00", "11", "10", "01");
                y.boat(boat);
                Edge.with(y, "worth 1 " + text + ">0;worth 2 " + text + ">1;worth 4 " + text + ">2;worth 8 " + text
                    + ">3;worth 16 " + text + ">4;worth 32 " + text + ">5");
                for (int group = 1; group < 32; group++) {
                    int size = Integer.bitCount(group);
                    int value = text.equals("n") ? size : text.equals("w") ? Integer.bitCount(group & wantOther) : boat;
                    Edge.due(text + " of " + group, y.group(group, 1), (1 << value) - 1);
                }
            }
        }
    }

    private static void groupsByTests() {
        Edge.says(Edge.TERMS, "one of these letters, < or = or >, a number (1 or 2 digits): of a pair a the lesser, b the greater one; of a GROUP n");
        String[] signs = {"<", "=", ">"};
        for (int n = 0; n < 8; n++) {
            for (int sign = 0; sign < 3; sign++) {
                OnlyStrangers x = Edge.people("01", "00", "01", "00");
                x.cross(1);
                x.cross(1);
                x.cross(1);
                String test = signs[sign] + n;
                Edge.with(x, "worth 1 n" + test + ";worth 2 w" + test + ";worth 4 s" + test + ";worth 8 c" + test);
                for (int group = 1; group < 16; group++) {
                    int[] values = {Integer.bitCount(group), Integer.bitCount(group & 10), 1, 3};
                    int due = 0;
                    for (int k = 0; k < 4; k++) {
                        boolean holds = sign == 0 ? values[k] < n : sign == 1 ? values[k] == n : values[k] > n;
                        due += holds ? 1 << k : 0;
                    }
                    Edge.due("group(" + group + ", 1) by " + test, x.group(group, 1), due);
                }
            }
        }
    }

    private static void crossingsModulo60() {
        Edge.says(Edge.TERMS, "c (of a GROUP, too) CROSSINGS gone, modulo 60");
        OnlyStrangers x = Edge.with(Edge.crowd(1), "worth 1 c=0;worth 2 c=1;worth 4 c>57;worth 8 c=59;worth 16 c>59");
        int[] due = {1, 2, 0};
        for (int k = 0; k < 3; k++) {
            Edge.due("group(1, 1) behind " + k, x.group(1, 1), due[k]);
            Edge.due("cross(1) behind " + k, x.cross(1), due[k]);
        }
        Edge.time(x, 0, 54);
        int[] later = {0, 4, 12, 1, 2, 0};
        for (int k = 0; k < later.length; k++) {
            Edge.due("group(1, 1) behind " + (57 + k), x.group(1, 1), later[k]);
            Edge.due("cross(1) behind " + (57 + k), x.cross(1), later[k]);
        }
        Edge.time(x, 0, 57);
        Edge.due("told(4)", x.told(4), 120);
        Edge.due("group(1, 1) behind 120", x.group(1, 1), 1);
    }

    private static void notOfIt() {
        Edge.says(Edge.TERMS, "(what is not of it is 99)");
        for (String letter : new String[] {"n", "w", "s", "c"}) {
            dueBars("bar " + letter + "=99", (a, b) -> true);
            dueBars("bar " + letter + "<99", (a, b) -> false);
            dueBars("bar " + letter + ">98", (a, b) -> true);
            dueBars("bar " + letter + ">99", (a, b) -> false);
            dueBars("bar " + letter + "=0|" + letter + "=2", (a, b) -> false);
        }
        OnlyStrangers x = Edge.with(Edge.crowd(2), "worth 1 a=99;worth 2 b=99;worth 4 a<99;worth 8 b>99;worth 16 a>98&b>98");
        for (int group = 1; group < 4; group++) {
            Edge.due("group(" + group + ", 1)", x.group(group, 1), 19);
        }
    }

    private static void fourDeep() {
        Edge.says(Edge.TERMS, "A ( or ! within 4 others is none.");
        for (int ways = 0; ways < 32; ways++) {
            StringBuilder open = new StringBuilder();
            StringBuilder close = new StringBuilder();
            for (int k = 0; k < 4; k++) {
                open.append((ways >> k & 1) == 0 ? '(' : '!');
                close.append((ways >> k & 1) == 0 ? ")" : "");
            }
            dueParish("bar " + open + "a=1" + close);
            dueFault("bar " + open + (ways < 16 ? "(a=1)" : "!a=1") + close, 8);
            dueFault("worth 10 b=3|" + open + (ways < 16 ? "(a=1)" : "!a=1") + close, 17);
        }
        dueFault("bar !!!!!", 8);
        dueFault("bar (((((", 8);
        dueFault("bar ((((", 8);
        dueBars("bar (((a=0)))&(((b=1)))|((((b=3))))", (a, b) -> b == 1 || b == 3);
        dueBars("bar !!!!a=1&!!!!b=2", (a, b) -> a == 1 && b == 2);
        dueBars("bar !!!a=1&!b=2", (a, b) -> a != 1 && b != 2);
        dueBars("bar (((a=9|(a=1)|(b=2)|!b<4)))", (a, b) -> a == 1 || b == 2 || b == 4);
        dueBars("bar !(!(a=1)&!(b=2))", (a, b) -> a == 1 || b == 2);
        dueFault("bar (((a=9|(a=1)|((b=2))|!b<4)))", 18);
        dueFault("bar !(!(a=1|(b=2)))", 12);
    }

    private static void faultByFirstByte() {
        Edge.says(Edge.TERMS, "The FAULT: the place of the first byte with which none begins so");
        String text = "worth 12 !(a<1|b=2)&c>03;l";
        String behindDigit = DIGITS + "|&";
        String[] next = {"hlfbw", "o", "r", "t", "h", " ", DIGITS, DIGITS + " ", " ", STARTS, STARTS, STARTS, "<=>", DIGITS,
            behindDigit + ")", STARTS, "<=>", DIGITS, behindDigit + ")", "|&;", STARTS, "<=>", DIGITS, behindDigit + ";",
            "|&;", "hlfbw"};
        Edge.due("places", next.length, text.length());
        for (int at = 0; at < next.length; at++) {
            for (char c = 0; c < 128; c++) {
                OnlyStrangers x = new OnlyStrangers();
                int got = Edge.parish(x, text.substring(0, at) + c);
                boolean begins = next[at].indexOf(c) >= 0;
                Edge.due("sign " + (int) c + " at " + at + " is the fault", got == -10 - at ? 1 : 0, begins ? 0 : 1);
                OnlyStrangers y = new OnlyStrangers();
                int behind = Edge.parish(y, text.substring(0, at) + c + "~");
                Edge.due("the fault at " + at + " with sign " + (int) c, behind, begins ? -11 - at : -10 - at);
            }
        }
    }

    private static void faultByEnd() {
        Edge.says(Edge.TERMS, "(the end of THE TEXT, if it ends too early)");
        String text = "worth 12 !(a<1|b=2)&c>03;bar a=1";
        for (int end = 0; end <= text.length(); end++) {
            boolean whole = end == 19 || end == 23 || end == 24 || end == 32;
            Edge.due("parish() of " + text.substring(0, end), Edge.parish(new OnlyStrangers(), text.substring(0, end)),
                whole ? 0 : -10 - end);
        }
    }

    private static void newestHolds() {
        Edge.says(Edge.TERMS, "The newest PARISH holds (6 at most)");
        OnlyStrangers x = new OnlyStrangers();
        for (int k = 0; k < 6; k++) {
            Edge.due("parish()", Edge.parish(x, "holds 1" + k), k);
            Edge.due("told(0)", x.told(0), 10 + k);
        }
        Edge.due("parish() of the seventh", Edge.parish(x, "holds 20"), -4);
        Edge.due("told(0)", x.told(0), 15);
        Edge.due("count(1)", x.count(1), 6);
    }

    private static void withoutOne() {
        Edge.says(Edge.TERMS, "without one there are no CLAUSES.");
        OnlyStrangers x = Edge.crowd(5);
        for (int k = 0; k < 10; k++) {
            int b = k < 1 ? 1 : k < 3 ? 2 : k < 6 ? 3 : 4;
            int a = k - b * (b - 1) / 2;
            Edge.due("pair(" + a + ", " + b + ", 1)", x.pair(a, b, 1), 0);
        }
        for (int group = 1; group < 32; group++) {
            Edge.due("group(" + group + ", 1)", x.group(group, 1), 0);
            Edge.due("group(" + group + ", 0)", x.group(group, 0), Integer.bitCount(group) <= 2 ? 1 : 0);
        }
        x.cross(3);
        Edge.time(x, 0, 98);
        Edge.due("pair(0, 1, 0) long behind", x.pair(0, 1, 0), 1);
    }

    private static void lastOfSeveral() {
        Edge.says(Edge.TERMS, "holds (2 without), least (1 without), forget (0 without): the last one's n.");
        int[][] due = {{2, 1, 0}, {3, 1, 0}, {2, 4, 0}, {2, 1, 5}, {1, 0, 0}, {8, 1, 9}};
        String[] texts = {"bar a=1", "holds 9;holds 0;holds 3", "least 9;least 4", "forget 0;forget 99;forget 5",
            "holds 5;least 6;forget 7;holds 1;least 0;forget 0", "holds 8;bar a=1;forget 9;worth 3 n=1"};
        OnlyStrangers x = new OnlyStrangers();
        for (int what = 0; what < 3; what++) {
            Edge.due("told(" + what + ") without a parish", x.told(what), due[0][what]);
        }
        for (int k = 0; k < texts.length; k++) {
            Edge.due("parish() of " + texts[k], Edge.parish(x, texts[k]), k);
            for (int what = 0; what < 3; what++) {
                Edge.due("told(" + what + ") of " + texts[k], x.told(what), due[k][what]);
            }
        }
    }

    private static void someBar() {
        Edge.says(Edge.TERMS, "BARRED: a pair, if E of some bar holds.");
        dueBars("holds 5", (a, b) -> false);
        dueBars("bar a=9", (a, b) -> false);
        dueBars("bar a=0&b=1;holds 2;bar b=4", (a, b) -> b == 4 || b == 1);
        dueBars("bar b=4;bar a=9", (a, b) -> b == 4);
        dueBars("bar a=9;bar b=4", (a, b) -> b == 4);
        dueBars("worth 3 a<9;bar a=1;worth 4 b<9;bar b=3;worth 5 n=1", (a, b) -> a == 1 || b == 3);
        dueBars("bar a=0;bar a=1;bar a=2;bar a=3", (a, b) -> true);
        OnlyStrangers x = Edge.with(Edge.crowd(2), "bar a=0");
        Edge.due("group(3, 0)", x.group(3, 0), 0);
        Edge.due("told(5): barred is not known", x.told(5), 0);
        Edge.with(x, "worth 1 n=1");
        Edge.due("pair(0, 1, 1) of the next parish", x.pair(0, 1, 1), 0);
    }

    private static void allWorth() {
        Edge.says(Edge.TERMS, "WORTH of a GROUP: the n of all worth whose E holds, together.");
        OnlyStrangers x = Edge.with(Edge.crowd(3), "worth 1 n=1;bar a=9;worth 2 n>1;worth 4 n<3;holds 3;worth 8 n=3|w=2");
        int[] due = {0, 5, 5, 14, 5, 14, 14, 10};
        for (int group = 1; group < 8; group++) {
            Edge.due("group(" + group + ", 1)", x.group(group, 1), due[group]);
        }
        Edge.with(x, "worth 5 n=1;worth 5 n=1;worth 0 n=1");
        Edge.due("group(1, 1) of the same twice", x.group(1, 1), 10);
        Edge.due("group(3, 1) of none", x.group(3, 1), 0);
        Edge.with(x, "worth 99 n<9" + repeated(";worth 99 n<9", 6));
        Edge.due("group(7, 1) of seven", x.group(7, 1), 693);
        Edge.with(x, "worth 1 n<9" + repeated(";least 1", 8) + ";worth 2 n<9");
        Edge.due("group(7, 1) of the first and the tenth", x.group(7, 1), 3);
    }

    // ---- promises 7 and 8

    private static void signs() {
        Edge.says(7, "A sign (0 .. 127) comes behind THE TEXT's: how many it has. BAD; FULL.");
        OnlyStrangers x = new OnlyStrangers();
        for (int sign : new int[] {-1, 128, 255, 256, Integer.MIN_VALUE, Integer.MAX_VALUE}) {
            Edge.due("feed(" + sign + ")", x.feed(sign), -2);
        }
        Edge.due("count(4)", x.count(4), 0);
        Edge.due("feed(0)", x.feed(0), 1);
        Edge.due("feed(127)", x.feed(127), 2);
        for (int k = 3; k <= 100; k++) {
            Edge.due("feed() of the " + k + "th", x.feed('a'), k);
        }
        Edge.due("feed() of the 101st", x.feed('a'), -4);
        Edge.due("feed(0) of the 101st", x.feed(0), -4);
        Edge.due("feed(128): BAD comes first", x.feed(128), -2);
        Edge.due("feed(-1): BAD comes first", x.feed(-1), -2);
        Edge.due("count(4)", x.count(4), 100);
        OnlyStrangers y = new OnlyStrangers();
        Edge.feed(y, "bar a=");
        Edge.due("feed(128)", y.feed(128), -2);
        Edge.due("feed('1')", y.feed('1'), 7);
        Edge.due("parish()", y.parish(), 0);
    }

    private static void textIsEmptyThen() {
        Edge.says(8, "THE TEXT, which is empty then, is a PARISH, and holds: its number.");
        OnlyStrangers x = new OnlyStrangers();
        Edge.due("parish()", Edge.parish(x, "holds 3"), 0);
        Edge.due("count(4)", x.count(4), 0);
        Edge.due("told(0)", x.told(0), 3);
        Edge.due("parish() of nothing", x.parish(), -10);
        Edge.due("feed('l')", x.feed('l'), 1);
        Edge.due("parish()", Edge.parish(x, "east 2"), 1);
        Edge.due("told(0)", x.told(0), 2);
        Edge.due("told(1)", x.told(1), 2);
        Edge.due("count(4)", x.count(4), 0);
    }

    private static void sixParishes() {
        Edge.says(8, "FULL: there are 6 (THE TEXT stays)");
        OnlyStrangers x = new OnlyStrangers();
        for (int k = 0; k < 6; k++) {
            Edge.parish(x, "holds " + k);
        }
        Edge.due("parish() of nothing", x.parish(), -4);
        Edge.due("parish() of a parish", Edge.parish(x, "holds 7"), -4);
        Edge.due("count(4)", x.count(4), 7);
        Edge.due("parish() of a fault", Edge.parish(x, "x"), -4);
        Edge.due("count(4)", x.count(4), 8);
        Edge.due("feed(1)", x.feed(1), 9);
        Edge.due("told(0)", x.told(0), 5);
        Edge.due("count(1)", x.count(1), 6);
        OnlyStrangers y = new OnlyStrangers();
        for (int k = 0; k < 12; k++) {
            Edge.due("parish() of a fault is none of the six", Edge.parish(y, "holds"), -15);
        }
        Edge.due("parish()", Edge.parish(y, "holds 4"), 0);
    }

    private static void faultChangesNothing() {
        Edge.says(8, "-10 less the FAULT (THE TEXT is empty, too; the one that held holds).");
        OnlyStrangers x = Edge.crowd(3);
        Edge.due("parish() without one that held", Edge.parish(x, "holds 9;least 3;forget 4;bar a<9;worth 9 n<9;"), -55);
        Edge.due("count(4)", x.count(4), 0);
        Edge.due("count(1)", x.count(1), 0);
        Edge.due("told(0)", x.told(0), 2);
        Edge.due("told(1)", x.told(1), 1);
        Edge.due("told(2)", x.told(2), 0);
        Edge.due("pair(0, 1, 1)", x.pair(0, 1, 1), 0);
        Edge.due("group(1, 1)", x.group(1, 1), 0);
        Edge.due("parish()", Edge.parish(x, "holds 3;least 2;forget 6;bar b=2;worth 7 n=2"), 0);
        Edge.due("parish() of a fault", Edge.parish(x, "holds 9;least 3;forget 4;bar a<9;worth 9 n<9;"), -55);
        Edge.due("parish() of no text", x.parish(), -10);
        Edge.due("parish() of a fault at the first place", Edge.parish(x, repeated("!", 100)), -10);
        Edge.due("parish() of a fault at the end", Edge.parish(x, "bar a=1|" + repeated("(a=1)&", 15) + "a="), -110);
        Edge.due("told(0)", x.told(0), 3);
        Edge.due("told(1)", x.told(1), 2);
        Edge.due("told(2)", x.told(2), 6);
        Edge.due("pair(0, 1, 1)", x.pair(0, 1, 1), 0);
        Edge.due("pair(0, 2, 1)", x.pair(0, 2, 1), 1);
        Edge.due("group(3, 1)", x.group(3, 1), 7);
        Edge.due("group(1, 1)", x.group(1, 1), 0);
        Edge.due("count(1)", x.count(1), 1);
        Edge.due("parish() of a fault", Edge.parish(x, "worth 9 n<9;worth 9 n<9;worth 9 n<9;bar a<9;"), -54);
        Edge.with(x, "worth 2 n=1");
        int[] told = {2, 1, 0};
        for (int what = 0; what < 3; what++) {
            Edge.due("told(" + what + "): nothing of the faulty ones stays", x.told(what), told[what]);
        }
        Edge.due("pair(0, 1, 1): nothing of the faulty ones stays", x.pair(0, 1, 1), 0);
        Edge.due("group(1, 1): nothing of the faulty ones stays", x.group(1, 1), 2);
        Edge.due("group(3, 1): nothing of the faulty ones stays", x.group(3, 1), 0);
    }
}
