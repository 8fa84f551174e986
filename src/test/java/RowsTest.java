/** Promises 18 to 27: what can be, lots, books. */
public final class RowsTest {
    public static void main(String[] args) {
        longest();
        nobodyForgets();
        home();
        homeFirst();
        left();
        circle();
        strangers();
        price();
        likely();
        wanted();
        book();
        readBook();
        askingChangesNothing();
        Check.end("RowsTest", 18, 27);
    }

    private static void longest() {
        OnlyStrangers x = Check.crowd(5);
        // who has crossed knows the others who have: none of two can go back
        Check.due(18, "longest()", x.longest(), 1);
        x.set(3, 0, 1);
        x.set(4, 0, 1);
        // 0 and 3 meet last: 0 1, 0 3, 0 2, 1 2 (or 1 3), ...: all ten pairs by twos
        Check.due(18, "longest()", x.longest(), 10);
        x.boat(1);
        // 3 4 come, two go, who are alone then
        Check.due(18, "longest()", x.longest(), 2);
        Check.parish(x, "holds 5;least 3");
        Check.due(18, "longest()", x.longest(), 0);
        x.boat(0);
        // 0 1 2 go, 0 3 4 come, and there each has met one of the others
        Check.due(18, "longest()", x.longest(), 2);
        Check.parish(x, "holds 5;least 2");
        Check.due(18, "longest()", x.longest(), 10);
        Check.parish(x, "holds 1");
        Check.due(18, "longest()", x.longest(), 0);
        Check.parish(x, "holds 2;bar a<9");
        Check.due(18, "longest()", x.longest(), 0);
        OnlyStrangers y = Check.crowd(5);
        Check.parish(y, "holds 5;least 5");
        Check.due(18, "longest() of all", y.longest(), 1);
        y.meet(0, 1, true);
        Check.due(18, "longest() of all but two", y.longest(), 0);
        Check.due(18, "longest() of nobody", new OnlyStrangers().longest(), 0);
        Check.due(18, "longest() of one", Check.crowd(1).longest(), 0);
        Check.due(18, "longest() of two", Check.crowd(2).longest(), 1);
    }

    private static void nobodyForgets() {
        OnlyStrangers x = Check.crowd(3);
        Check.parish(x, "holds 2;forget 1");
        x.set(2, 0, 1);
        // 0 1 go, 0 2 or 1 2 come
        Check.due(18, "longest()", x.longest(), 2);
        x.meet(0, 1, true);
        Check.due(18, "longest()", x.longest(), 0);
        Check.due(20, "left()", x.left(), 0);
        x.set(2, 0, 0);
        x.cross(4);
        // one crossing has gone: 0 and 1 are strangers again
        Check.due(18, "longest()", x.longest(), 0);
        x.boat(0);
        Check.due(18, "longest()", x.longest(), 2);
    }

    private static void home() {
        OnlyStrangers x = Check.crowd(2);
        Check.due(19, "home(0)", x.home(0), 1);
        Check.due(19, "home(1)", x.home(1), 3);
        x.meet(0, 1, true);
        Check.due(19, "home(0)", x.home(0), -5);
        Check.due(19, "home(1)", x.home(1), -5);
        x.set(1, 0, 1);
        Check.due(19, "home(0)", x.home(0), 1);
        Check.due(19, "home(1)", x.home(1), 1);
        x.boat(1);
        // 1 comes for nothing: 1, then only one of the two can go
        Check.due(19, "home(0)", x.home(0), -5);
        x.set(0, 0, 1);
        Check.due(19, "home(0)", x.home(0), 0);
        Check.due(19, "home(1)", x.home(1), 0);
        Check.due(19, "home(2)", x.home(2), -1);
        Check.due(19, "home(-1)", x.home(-1), -1);
        Check.due(19, "home(0) of nobody", new OnlyStrangers().home(0), 0);
        Check.due(19, "home(1) of nobody", new OnlyStrangers().home(1), 0);
    }

    private static void homeFirst() {
        OnlyStrangers x = Check.crowd(3);
        // 0 1, 0, 0 2; or 0 1, 1, 1 2; and so on: three
        Check.due(19, "home(0)", x.home(0), 3);
        Check.due(19, "home(1)", x.home(1), 3);
        x.meet(0, 1, true);
        // the one that comes back has to go with a stranger: 0 2, 2, 1 2
        Check.due(19, "home(0)", x.home(0), 3);
        Check.due(19, "home(1)", x.home(1), 5);
        x.meet(0, 2, true);
        // 0 knows both: 0 can't come over any more but alone
        Check.due(19, "home(0)", x.home(0), -5);
        Check.parish(x, "holds 3;forget 1");
        x.boat(0);
        // it is asked now: 0 knows both, and does not forget it
        Check.due(19, "home(0)", x.home(0), -5);
        x.meet(0, 1, false);
        x.meet(0, 2, false);
        Check.due(19, "home(0)", x.home(0), 1);
        Check.due(19, "home(1)", x.home(1), 7);
        Check.parish(x, "holds 2;least 2");
        Check.due(19, "home(0)", x.home(0), -5);
        OnlyStrangers y = Check.crowd(5);
        Check.due(19, "home(0) of five", y.home(0), 7);
        Check.due(19, "home(1) of five", y.home(1), 3);
        Check.parish(y, "holds 4");
        Check.due(19, "home(0) of five by four", y.home(0), 3);
        // one of two comes back, who does not know the other three: but two of four don't, so two go first
        Check.due(19, "home(1) of five by four", y.home(1), 3);
        Check.parish(y, "holds 2;bar a=0&b=1");
        Check.due(19, "home(0), one pair barred", y.home(0), 7);
        Check.due(19, "home(1), one pair barred", y.home(1), 5);
    }

    private static void left() {
        OnlyStrangers x = Check.crowd(4);
        Check.due(20, "left()", x.left(), 0);
        x.meet(0, 1, true);
        x.meet(0, 2, true);
        x.meet(0, 3, true);
        Check.due(20, "left()", x.left(), 1);
        x.boat(1);
        // the boat has nobody to go with
        Check.due(20, "left()", x.left(), 15);
        x.set(0, 0, 1);
        Check.due(20, "left()", x.left(), 1);
        Check.parish(x, "holds 2;least 2");
        Check.due(20, "left()", x.left(), 15);
        x.boat(0);
        Check.due(20, "left()", x.left(), 1);
        Check.parish(x, "holds 1");
        Check.due(20, "left()", x.left(), 15);
        Check.parish(x, "holds 3;forget 2;bar b=3");
        Check.due(20, "left()", x.left(), 9);
        OnlyStrangers y = Check.crowd(2);
        Check.parish(y, "least 2");
        Check.due(20, "left() of two", y.left(), 0);
        Check.due(20, "left() of nobody", new OnlyStrangers().left(), 0);
        Check.due(20, "left() of one", Check.crowd(1).left(), 1);
    }

    private static void circle() {
        OnlyStrangers x = Check.crowd(5);
        Check.due(21, "circle()", x.circle(), 31);
        x.set(2, 0, 1);
        x.meet(0, 1, true);
        Check.due(21, "circle()", x.circle(), 29);
        x.meet(2, 3, true);
        // 0 or 1, 2 or 3, and 4
        Check.due(21, "circle()", x.circle(), 21);
        Check.parish(x, "bar b=4");
        Check.due(21, "circle()", x.circle(), 5);
        Check.parish(x, "bar a<9");
        Check.due(21, "circle()", x.circle(), 1);
        Check.due(21, "circle() of nobody", new OnlyStrangers().circle(), 0);
    }

    private static void strangers() {
        OnlyStrangers x = Check.crowd(3);
        int[] due = {-5, 0, 0, 0, 1, 2, 3, 4, -5, -5};
        for (int holds = 0; holds < 6; holds++) {
            Check.parish(x, "least 0;holds " + holds);
            Check.due(22, "strangers() of " + holds, x.strangers(), due[holds]);
        }
        OnlyStrangers y = Check.crowd(3);
        for (int holds = 6; holds < 10; holds++) {
            Check.parish(y, "holds " + holds);
            Check.due(22, "strangers() of " + holds, y.strangers(), due[holds]);
        }
        y.boat(1);
        Check.parish(y, "holds 4;least 4");
        Check.due(22, "strangers() with nobody", y.strangers(), 4);
        Check.parish(y, "holds 4;least 5");
        Check.due(22, "strangers(), fewer than least", y.strangers(), -5);
        OnlyStrangers z = Check.crowd(4);
        z.meet(0, 1, true);
        Check.parish(z, "holds 4;bar a=2&b=3");
        Check.due(22, "strangers() with two pairs closed", z.strangers(), 2);
        z.set(2, 0, 1);
        Check.due(22, "strangers() with one across", z.strangers(), 2);
        z.set(3, 0, 1);
        Check.due(22, "strangers() with two across", z.strangers(), 3);
        Check.due(22, "strangers() of a new object", new OnlyStrangers().strangers(), 2);
    }

    private static void price() {
        OnlyStrangers x = Check.crowd(3);
        x.set(2, 0, 1);
        // 0 1, then 0 2 or 1 2: without 0 1 there is none
        Check.due(23, "price(0, 1)", x.price(0, 1), 2);
        Check.due(23, "price(1, 0)", x.price(1, 0), 2);
        Check.due(23, "price(0, 2)", x.price(0, 2), 0);
        x.meet(0, 1, true);
        Check.due(23, "price(0, 1)", x.price(0, 1), 0);
        Check.due(23, "told(5)", x.told(5), 1);
        Check.due(23, "price(3, 0)", x.price(3, 0), -1);
        Check.due(23, "price(0, -1)", x.price(0, -1), -1);
        Check.due(23, "price(3, 3)", x.price(3, 3), -1);
        Check.due(23, "price(2, 2)", x.price(2, 2), -2);
    }

    private static void fraction(int promise, String call, long above, long below, long dueAbove, long dueBelow) {
        Check.due(promise, call + " above", above, dueAbove);
        Check.due(promise, call + " below", below, dueBelow);
    }

    private static void likely() {
        OnlyStrangers x = Check.crowd(2);
        fraction(24, "likely(1)", x.likely(1, 0), x.likely(1, 1), 1, 1);
        fraction(24, "likely(3)", x.likely(3, 0), x.likely(3, 1), 1, 1);
        Check.parish(x, "least 2");
        fraction(24, "likely(1)", x.likely(1, 0), x.likely(1, 1), 1, 1);
        fraction(24, "likely(2)", x.likely(2, 0), x.likely(2, 1), 0, 1);
        x.person(0, 0);
        x.person(1, 0);
        // 0 1, 0 2, 1 2: each goes on by two; then 0 3 leaves 0 and 2: strangers
        fraction(24, "likely(2)", x.likely(2, 0), x.likely(2, 1), 1, 1);
        fraction(24, "likely(3)", x.likely(3, 0), x.likely(3, 1), 1, 1);
        x.meet(1, 2, true);
        x.meet(2, 3, true);
        // 0 1, then 0 3 and 0 2, or 1 3 and none; 0 2, then 0 3, then 0 1 or 1 3
        fraction(24, "likely(3)", x.likely(3, 0), x.likely(3, 1), 3, 4);
        x.meet(2, 3, false);
        x.meet(0, 3, true);
        x.meet(1, 3, true);
        // 0 1, then none; 0 2, then 2 3, then none
        fraction(24, "likely(2)", x.likely(2, 0), x.likely(2, 1), 1, 2);
        fraction(24, "likely(3)", x.likely(3, 0), x.likely(3, 1), 0, 1);
        Check.parish(x, "least 2;forget 1");
        x.boat(1);
        fraction(24, "likely(1)", x.likely(1, 0), x.likely(1, 1), 0, 1);
        for (int n = -1; n < 6; n += n == 0 ? 4 : 1) {
            Check.due(24, "likely(" + n + ", 0)", x.likely(n, 0), OnlyStrangers.NO);
        }
        Check.due(24, "likely(1, 2)", x.likely(1, 2), OnlyStrangers.NO);
        Check.due(24, "likely(1, -1)", x.likely(1, -1), OnlyStrangers.NO);
        fraction(24, "likely(1) of nobody", new OnlyStrangers().likely(1, 0), new OnlyStrangers().likely(1, 1), 0, 1);
    }

    private static void wanted() {
        OnlyStrangers x = Check.crowd(3);
        fraction(25, "wanted(0)", x.wanted(0, 0), x.wanted(0, 1), 0, 1);
        // six groups: three of one, three of two
        fraction(25, "wanted(1)", x.wanted(1, 0), x.wanted(1, 1), 3, 2);
        // one comes back at once; of two either
        fraction(25, "wanted(2)", x.wanted(2, 0), x.wanted(2, 1), 1, 2);
        x.set(2, 1, 0);
        fraction(25, "wanted(0)", x.wanted(0, 0), x.wanted(0, 1), 1, 1);
        // 2, 2, 3, 0, 1, 1
        fraction(25, "wanted(1)", x.wanted(1, 0), x.wanted(1, 1), 3, 2);
        Check.parish(x, "least 3;holds 3");
        x.meet(0, 1, true);
        // none may go
        fraction(25, "wanted(2)", x.wanted(2, 0), x.wanted(2, 1), 1, 1);
        x.meet(0, 1, false);
        // all go, and stay there
        fraction(25, "wanted(2)", x.wanted(2, 0), x.wanted(2, 1), 2, 1);
        Check.due(25, "wanted(3, 0)", x.wanted(3, 0), OnlyStrangers.NO);
        Check.due(25, "wanted(-1, 0)", x.wanted(-1, 0), OnlyStrangers.NO);
        Check.due(25, "wanted(0, 2)", x.wanted(0, 2), OnlyStrangers.NO);
        Check.due(25, "wanted(0, -1)", x.wanted(0, -1), OnlyStrangers.NO);
        fraction(25, "wanted(2) of nobody", new OnlyStrangers().wanted(2, 0), new OnlyStrangers().wanted(2, 1), 0, 1);
    }

    private static void book() {
        OnlyStrangers x = new OnlyStrangers();
        Check.due(26, "book(-1)", x.book(-1), 0);
        Check.due(26, "book(0)", x.book(0), -2);
        Check.due(26, "book(32)", x.book(32), -2);
        Check.due(26, "book(-2)", x.book(-2), -2);
        for (int k = 1; k <= 12; k++) {
            Check.due(26, "book", x.book(k % 2 == 0 ? 31 : 1), k);
            Check.due(26, "count(3)", x.count(3), k);
        }
        Check.due(26, "book(1)", x.book(1), -4);
        Check.due(26, "book(0)", x.book(0), -2);
        Check.due(26, "count(3)", x.count(3), 12);
        Check.due(26, "book(-1)", x.book(-1), 0);
        Check.due(26, "count(3)", x.count(3), 0);
        Check.due(26, "book(7)", x.book(7), 1);
    }

    private static void readBook() {
        OnlyStrangers x = Check.crowd(3);
        Check.due(27, "readBook()", x.readBook(), 0);
        x.book(3);
        x.book(2);
        x.book(6);
        x.book(4);
        Check.due(27, "readBook()", x.readBook(), 4);
        x.book(8);
        x.book(1);
        Check.due(27, "readBook() with one who is not there", x.readBook(), 4);
        x.meet(1, 2, true);
        Check.due(27, "readBook()", x.readBook(), 2);
        Check.parish(x, "forget 1");
        Check.due(27, "readBook() forgetting", x.readBook(), 4);
        x.boat(1);
        Check.due(27, "readBook() from the other shore", x.readBook(), 0);
        x.boat(0);
        x.book(-1);
        x.book(3);
        x.book(3);
        Check.due(27, "readBook() of who just met", x.readBook(), 1);
        Check.due(27, "told(4)", x.told(4), 0);
    }

    private static void askingChangesNothing() {
        OnlyStrangers x = Check.crowd(4);
        Check.parish(x, "holds 3;forget 2");
        x.plan(4, 3);
        x.book(3);
        for (int k = 0; k < 2; k++) {
            x.home(0);
            x.left();
            x.price(0, 1);
            x.likely(3, 0);
            x.wanted(2, 0);
            x.readBook();
            x.run(0, 40, 2);
            Check.due(18, "told(3)", x.told(3), 0);
            Check.due(18, "told(4)", x.told(4), 0);
            Check.due(18, "told(5)", x.told(5), 0);
            Check.due(18, "groups()", x.groups(), 14);
        }
    }
}
