/** Promises 1 to 10: people, the boat, parishes. */
public final class PeopleTest {
    public static void main(String[] args) {
        newObject();
        persons();
        persons3to6();
        meetings();
        forgetting();
        texts();
        readings();
        faults();
        faultThenParish();
        sixParishes();
        barred();
        Check.end("PeopleTest", 1, 10);
    }

    private static void newObject() {
        OnlyStrangers x = new OnlyStrangers();
        for (int what = 0; what < 6; what++) {
            Check.due(1, "count(" + what + ")", x.count(what), 0);
        }
        Check.due(1, "told(0)", x.told(0), 2);
        Check.due(1, "told(1)", x.told(1), 1);
        for (int what = 2; what < 6; what++) {
            Check.due(1, "told(" + what + ")", x.told(what), 0);
        }
        Check.due(1, "undo()", x.undo(), -3);
        Check.due(1, "groups()", x.groups(), 0);
        Check.due(1, "trace(0)", x.trace(0), -1);
        Check.due(1, "read(0, 0)", x.read(0, 0), OnlyStrangers.NO);
        Check.due(1, "NONE", OnlyStrangers.NONE, -1);
        Check.due(1, "BAD", OnlyStrangers.BAD, -2);
        Check.due(1, "STATE", OnlyStrangers.STATE, -3);
        Check.due(1, "FULL", OnlyStrangers.FULL, -4);
        Check.due(1, "NO", OnlyStrangers.NO, Long.MIN_VALUE);
    }

    private static void persons() {
        OnlyStrangers x = new OnlyStrangers();
        Check.due(2, "person(2, 0)", x.person(2, 0), -1);
        Check.due(2, "person(0, -1)", x.person(0, -1), -1);
        Check.due(2, "person(-1, 0)", x.person(-1, 0), -1);
        Check.due(2, "count(0)", x.count(0), 0);
        for (int p = 0; p < 5; p++) {
            Check.due(3, "of() of nobody", x.of(p, 0), -1);
            Check.due(2, "person", x.person(p & 1, p >> 1 & 1), p);
        }
        Check.due(2, "person(0, 0)", x.person(0, 0), -4);
        Check.due(2, "person(0, 2)", x.person(0, 2), -1);
        Check.due(2, "count(0)", x.count(0), 5);
        for (int p = 0; p < 5; p++) {
            Check.due(3, "of(" + p + ", 0)", x.of(p, 0), p & 1);
            Check.due(3, "of(" + p + ", 1)", x.of(p, 1), p >> 1 & 1);
            Check.due(3, "of(" + p + ", 2)", x.of(p, 2), 0);
        }
        Check.due(3, "of(-1, 0)", x.of(-1, 0), -1);
        Check.due(3, "of(5, 0)", x.of(5, 0), -1);
        Check.due(3, "of(0, 3)", x.of(0, 3), -1);
        Check.due(3, "of(0, -1)", x.of(0, -1), -1);
    }

    private static void persons3to6() {
        OnlyStrangers x = Check.crowd(3);
        Check.due(4, "set(1, 0, 1)", x.set(1, 0, 1), 0);
        Check.due(4, "set(1, 0, 1)", x.set(1, 0, 1), 1);
        Check.due(4, "set(2, 1, 0)", x.set(2, 1, 0), 1);
        Check.due(4, "set(2, 1, 0)", x.set(2, 1, 0), 0);
        Check.due(4, "of(1, 0)", x.of(1, 0), 1);
        Check.due(4, "of(1, 1)", x.of(1, 1), 1);
        Check.due(4, "of(2, 0)", x.of(2, 0), 0);
        Check.due(4, "of(2, 1)", x.of(2, 1), 0);
        Check.due(4, "set(3, 0, 0)", x.set(3, 0, 0), -1);
        Check.due(4, "set(-1, 0, 0)", x.set(-1, 0, 0), -1);
        Check.due(4, "set(1, 2, 0)", x.set(1, 2, 0), -1);
        Check.due(4, "set(1, -1, 0)", x.set(1, -1, 0), -1);
        Check.due(4, "set(1, 0, 2)", x.set(1, 0, 2), -1);
        Check.due(4, "set(1, 0, -1)", x.set(1, 0, -1), -1);
        Check.due(4, "of(1, 0)", x.of(1, 0), 1);
        Check.due(6, "boat(1)", x.boat(1), 0);
        Check.due(6, "told(3)", x.told(3), 1);
        Check.due(6, "groups()", x.groups(), 1);
        Check.due(6, "boat(2)", x.boat(2), -1);
        Check.due(6, "boat(-1)", x.boat(-1), -1);
        Check.due(6, "boat(0)", x.boat(0), 1);
        Check.due(6, "boat(0)", x.boat(0), 0);
        Check.due(6, "groups()", x.groups(), 3);
    }

    private static void meetings() {
        OnlyStrangers x = Check.crowd(4);
        Check.due(5, "meet(0, 2, true)", x.meet(0, 2, true), 0);
        Check.due(5, "meet(2, 0, true)", x.meet(2, 0, true), 1);
        Check.due(5, "meet(2, 3, true)", x.meet(2, 3, true), 0);
        Check.due(5, "told(5)", x.told(5), 2);
        Check.due(5, "of(2, 2)", x.of(2, 2), 2);
        Check.due(5, "of(3, 2)", x.of(3, 2), 1);
        Check.due(5, "of(1, 2)", x.of(1, 2), 0);
        Check.due(10, "pair(2, 0, 0)", x.pair(2, 0, 0), 1);
        Check.due(10, "pair(0, 3, 0)", x.pair(0, 3, 0), 0);
        Check.due(10, "pair(0, 3, 2)", x.pair(0, 3, 2), -5);
        Check.due(10, "pair(0, 2, 2)", x.pair(0, 2, 2), 0);
        Check.due(5, "meet(3, 2, false)", x.meet(3, 2, false), 1);
        Check.due(5, "meet(3, 2, false)", x.meet(3, 2, false), 0);
        Check.due(5, "pair(3, 2, 2)", x.pair(3, 2, 2), -5);
        Check.due(5, "meet(4, 0, true)", x.meet(4, 0, true), -1);
        Check.due(5, "meet(0, -1, true)", x.meet(0, -1, true), -1);
        Check.due(5, "meet(4, 4, true)", x.meet(4, 4, true), -1);
        Check.due(5, "meet(1, 1, true)", x.meet(1, 1, true), -2);
        Check.due(10, "pair(1, 1, 0)", x.pair(1, 1, 0), -2);
        Check.due(10, "pair(1, 1, 3)", x.pair(1, 1, 3), -1);
        Check.due(10, "pair(4, 4, 0)", x.pair(4, 4, 0), -1);
        Check.due(10, "pair(0, 4, 0)", x.pair(0, 4, 0), -1);
        Check.due(10, "pair(-1, 0, 0)", x.pair(-1, 0, 0), -1);
        Check.due(10, "pair(0, 1, 3)", x.pair(0, 1, 3), -1);
        Check.due(10, "pair(0, 1, -1)", x.pair(0, 1, -1), -1);
        Check.due(9, "told(5)", x.told(5), 1);
    }

    private static void forgetting() {
        OnlyStrangers x = Check.crowd(3);
        Check.due(8, "parish()", Check.parish(x, "holds 2;forget 2"), 0);
        x.cross(3);
        Check.due(10, "pair(0, 1, 2)", x.pair(0, 1, 2), 0);
        x.meet(0, 2, true);
        x.cross(1);
        Check.due(10, "pair(0, 1, 2)", x.pair(0, 1, 2), 1);
        Check.due(10, "pair(0, 1, 0)", x.pair(0, 1, 0), 1);
        Check.due(10, "pair(0, 2, 0)", x.pair(0, 2, 0), 1);
        Check.due(9, "told(5)", x.told(5), 2);
        Check.due(3, "of(0, 2)", x.of(0, 2), 2);
        x.cross(4);
        Check.due(10, "pair(0, 1, 0)", x.pair(0, 1, 0), 0);
        Check.due(10, "pair(0, 1, 2)", x.pair(0, 1, 2), 2);
        Check.due(9, "told(5)", x.told(5), 0);
        Check.due(3, "of(0, 2)", x.of(0, 2), 0);
        Check.due(5, "meet(0, 2, true)", x.meet(0, 2, true), 0);
        Check.due(5, "meet(0, 2, true)", x.meet(0, 2, true), 1);
        Check.due(10, "pair(0, 2, 2)", x.pair(0, 2, 2), 0);
        Check.due(8, "parish()", Check.parish(x, "holds 2"), 1);
        Check.due(9, "told(5)", x.told(5), 2);
        Check.due(9, "told(4)", x.told(4), 3);
        Check.due(9, "told(3)", x.told(3), 1);
        OnlyStrangers y = Check.crowd(2);
        Check.parish(y, "forget 2");
        y.meet(0, 1, true);
        y.cross(1);
        Check.due(5, "meet(0, 1, true), one crossing gone", y.meet(0, 1, true), 1);
        y.cross(1);
        y.cross(1);
        Check.due(5, "meet(0, 1, false), two crossings gone", y.meet(0, 1, false), 0);
    }

    private static void texts() {
        OnlyStrangers x = new OnlyStrangers();
        Check.due(7, "feed(-1)", x.feed(-1), -2);
        Check.due(7, "feed(128)", x.feed(128), -2);
        Check.due(7, "feed(0)", x.feed(0), 1);
        Check.due(7, "feed(127)", x.feed(127), 2);
        for (int k = 2; k < 100; k++) {
            Check.due(7, "feed(59)", x.feed(59), k + 1);
        }
        Check.due(7, "feed(59)", x.feed(59), -4);
        Check.due(7, "feed(128)", x.feed(128), -2);
        Check.due(7, "count(4)", x.count(4), 100);
        Check.due(8, "parish()", x.parish(), -10);
        Check.due(7, "count(4)", x.count(4), 0);
        StringBuilder text = new StringBuilder("bar a=1");
        while (text.length() + 6 <= 98) {
            text.append(text.length() % 2 == 0 ? "|a=10" : "&!b<3");
        }
        Check.due(8, "parish() of a long text", Check.parish(x, text.toString()), 0);
    }

    private static void readings() {
        OnlyStrangers x = Check.crowd(5);
        Check.due(8, "parish()", Check.parish(x, "holds 3;least 0;forget 07;holds 04;least 10"), 0);
        Check.due(9, "told(0)", x.told(0), 4);
        Check.due(9, "told(1)", x.told(1), 10);
        Check.due(9, "told(2)", x.told(2), 7);
        Check.due(9, "told(6)", x.told(6), -1);
        Check.due(9, "told(-1)", x.told(-1), -1);
        Check.due(8, "parish()", Check.parish(x, "least 0"), 1);
        Check.due(9, "told(0)", x.told(0), 2);
        Check.due(9, "told(1)", x.told(1), 0);
        Check.due(9, "told(2)", x.told(2), 0);
        Check.due(9, "groups()", x.groups(), 15);
        Check.due(8, "parish()", Check.parish(x, "holds 9;x"), -18);
        Check.due(8, "told(0)", x.told(0), 2);
        Check.due(8, "count(1)", x.count(1), 2);
        Check.due(8, "count(4)", x.count(4), 0);
        String ten = "holds 1;holds 2;holds 3;holds 4;holds 5;holds 6;holds 7;holds 8;holds 9;holds 10";
        Check.due(8, "parish() of ten", Check.parish(x, ten), 2);
        Check.due(9, "told(0)", x.told(0), 10);
        Check.due(8, "parish() of eleven", Check.parish(x, ten + ";holds 1"), -10 - ten.length());
    }

    /** Nothing of a text with a fault stays. */
    private static void faultThenParish() {
        OnlyStrangers x = Check.crowd(2);
        String text = "holds 5;least 3;forget 4;bar a<9;worth 9 n<9;worth 8 n<9;worth 7";
        Check.due(8, "parish()", Check.parish(x, text), -10 - text.length());
        Check.due(9, "told(0)", x.told(0), 2);
        Check.due(10, "pair(0, 1, 1)", x.pair(0, 1, 1), 0);
        Check.due(8, "parish()", Check.parish(x, "worth 2 n=1"), 0);
        Check.due(9, "told(0)", x.told(0), 2);
        Check.due(9, "told(1)", x.told(1), 1);
        Check.due(9, "told(2)", x.told(2), 0);
        Check.due(10, "pair(0, 1, 1)", x.pair(0, 1, 1), 0);
        Check.due(8, "group(1, 1)", x.group(1, 1), 2);
        Check.due(8, "group(3, 1)", x.group(3, 1), 0);
    }

    private static void faults() {
        String[] texts = {"", "holds", "holds ", "holds 1", "holds 123", "holds 1 ", "hold 1", "Holds 1", "bar a=1&",
            "bar a", "bar a=", "bar a==1", "bar a=1)", "bar (a=1", "bar ((((a=1))))", "bar (((((a=1)))))", "bar !!!!a=1",
            "bar !!!!!a=1", "bar !(!(a=1)&!(b=2))|c<3", "bar !(!(!(a=1)))", "worth 1", "worth 1 ", "worth 12 n>1",
            "worth 123 n>1", "worth n>1", "bar a=1;;", "bar a=1; holds 1", "bar a=1 |b=2", "worth 5 (n=1|w=2)&s=0|c>59",
            "worth 5 x=1", "least 4;forget", "forget 5;forgot", "bar a=100", "bar a=1b=2", "bar ()", "bar !", "bar !)",
            "worth 1 !((!n=1))&((((s=0", "bar (a=1;b=2)", "barr a=1", "bar  a=1", ";", "holds a", "forget 1|2"};
        int[] due = {0, 5, 6, -1, 8, 7, 4, 0, 8,
            5, 6, 6, 7, 8, -1, 8, -1,
            8, -1, 8, 7, 8, -1,
            8, 6, 8, 8, 7, -1,
            8, 14, 13, 8, 7, 5, 5, 5,
            25, 8, 3, 4, 0, 6, 8};
        Check.due(8, "rows of faults", texts.length, due.length);
        for (int k = 0; k < texts.length && k < due.length; k++) {
            OnlyStrangers x = new OnlyStrangers();
            int want = due[k] < 0 ? 0 : -10 - due[k];
            Check.due(8, "parish() of " + texts[k], Check.parish(x, texts[k]), want);
            Check.due(8, "count(1)", x.count(1), want == 0 ? 1 : 0);
        }
    }

    private static void sixParishes() {
        OnlyStrangers x = new OnlyStrangers();
        for (int k = 0; k < 6; k++) {
            Check.due(8, "parish()", Check.parish(x, "holds " + (k + 3)), k);
        }
        Check.due(8, "parish()", Check.parish(x, "nonsense"), -4);
        Check.due(8, "count(4)", x.count(4), 8);
        Check.due(8, "told(0)", x.told(0), 8);
        Check.due(8, "count(1)", x.count(1), 6);
    }

    private static void barred() {
        OnlyStrangers x = Check.crowd(5);
        Check.due(8, "parish()", Check.parish(x, "bar a=0&b=2;bar a>2|b<2;bar n=1|w<9|s=0|c<60"), 0);
        for (int a = 0; a < 5; a++) {
            for (int b = 0; b < 5; b++) {
                int least = Math.min(a, b);
                int most = Math.max(a, b);
                boolean due = least == 0 && most == 2 || least > 2 || most < 2;
                Check.due(10, "pair(" + a + ", " + b + ", 1)", x.pair(a, b, 1), a == b ? -2 : due ? 1 : 0);
            }
        }
        Check.due(9, "told(5)", x.told(5), 0);
        Check.due(8, "parish()", Check.parish(x, "bar n=99&w>98&s=99&c=99&!(a=1|b=4)"), 1);
        Check.due(10, "pair(0, 3, 1)", x.pair(0, 3, 1), 1);
        Check.due(10, "pair(1, 3, 1)", x.pair(1, 3, 1), 0);
        Check.due(10, "pair(4, 2, 1)", x.pair(4, 2, 1), 0);
    }
}
