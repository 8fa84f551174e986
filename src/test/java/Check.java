import java.util.TreeSet;

/** Counts what is as due, promise by promise. */
final class Check {
    private static final TreeSet<Integer> promises = new TreeSet<>();
    private static int passed = 0;
    private static int failed = 0;

    private Check() {
    }

    static void due(int promise, String call, long got, long want) {
        promises.add(promise);
        if (got == want) {
            passed++;
            return;
        }
        failed++;
        if (failed <= 40) {
            System.out.println("promise " + promise + ": " + call + " answered " + got + ", due is " + want);
        }
    }

    /** Feeds a text and reads it. */
    static int parish(OnlyStrangers x, String text) {
        for (int k = 0; k < text.length(); k++) {
            due(7, "feed", x.feed(text.charAt(k)), k + 1);
        }
        return x.parish();
    }

    /** An object with so many people on shore 0 who want shore 1. */
    static OnlyStrangers crowd(int people) {
        OnlyStrangers x = new OnlyStrangers();
        for (int p = 0; p < people; p++) {
            due(2, "person(0, 1)", x.person(0, 1), p);
        }
        return x;
    }

    static void end(String name, int firstPromise, int lastPromise) {
        for (int promise = firstPromise; promise <= lastPromise; promise++) {
            if (!promises.contains(promise)) {
                failed++;
                System.out.println("promise " + promise + " is not tested");
            }
        }
        System.out.println(name + ": " + passed + " checks as due, " + failed + " not");
        if (failed != 0) {
            System.exit(1);
        }
    }
}
