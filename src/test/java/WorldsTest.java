/**
 * Small worlds, one beside the other: all shores, wants, meetings and sizes of two and three people, and evenly chosen ones
 * of four and five; what can be there is as in Model.
 */
public final class WorldsTest {
    private static final String[] SIZES = {"holds 1", "holds 2;least 0", "holds 3", "holds 2;least 2", "holds 3;least 2",
        "holds 3;least 3", "holds 5;least 4", "holds 4;forget 1", "holds 2;forget 2;bar a=0&b=2"};
    private static int worlds = 0;
    private static int wrong = 0;

    public static void main(String[] args) {
        for (int people = 0; people <= 5; people++) {
            int pairs = people * (people - 1) / 2;
            int bits = 2 * people + 1 + pairs;
            long all = (1L << bits) * SIZES.length;
            // no divisor of all worlds, so that each size and each bit come with the others
            long stride = people < 3 ? 1 : people == 3 ? 5 : all / 800 / 6 * 6 + 1;
            for (long world = 0; world < all && wrong < 10; world += stride) {
                look(people, pairs, world);
            }
        }
        System.out.println("WorldsTest: " + worlds + " worlds, " + wrong + " not as the model");
        if (wrong != 0) {
            System.exit(1);
        }
    }

    private static void look(int people, int pairs, long world) {
        worlds++;
        OnlyStrangers x = new OnlyStrangers();
        Model m = new Model();
        String text = SIZES[(int) (world % SIZES.length)];
        long bits = world / SIZES.length;
        for (int k = 0; k < text.length(); k++) {
            x.feed(text.charAt(k));
            m.feed(text.charAt(k));
        }
        boolean same = x.parish() == m.parish();
        for (int p = 0; p < people; p++) {
            same &= x.person((int) (bits & 1), (int) (bits >> 1 & 1)) == m.person((int) (bits & 1), (int) (bits >> 1 & 1));
            bits >>= 2;
        }
        same &= x.boat((int) (bits & 1)) == m.boat((int) (bits & 1));
        bits >>= 1;
        for (int b = 1; b < people; b++) {
            for (int a = 0; a < b; a++) {
                if ((bits & 1) != 0) {
                    same &= x.meet(a, b, true) == m.meet(a, b, true);
                }
                bits >>= 1;
            }
        }
        for (int kind = 0; kind < 7; kind++) {
            same &= x.plan(kind, 4) == m.plan(kind, 4);
        }
        if (!same || !asked(x, m)) {
            wrong++;
            System.out.println("world " + world + " of " + people + " people, " + pairs + " pairs, " + text);
        }
    }

    private static boolean asked(OnlyStrangers x, Model m) {
        boolean same = x.groups() == m.groups() && x.longest() == m.longest();
        same &= x.home(0) == m.home(0) && x.home(1) == m.home(1);
        same &= x.left() == m.left() && x.circle() == m.circle() && x.strangers() == m.strangers();
        same &= x.price(0, 2) == m.price(0, 2) && x.price(1, 0) == m.price(1, 0);
        same &= x.likely(2, 0) == m.likely(2, 0) && x.likely(2, 1) == m.likely(2, 1);
        same &= x.wanted(1, 0) == m.wanted(1, 0) && x.wanted(1, 1) == m.wanted(1, 1);
        for (int plan = 0; plan < 7; plan++) {
            same &= x.by(plan, 2) == m.by(plan, 2);
        }
        return same;
    }
}
