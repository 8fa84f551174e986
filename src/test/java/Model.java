import java.math.BigInteger;
import java.util.ArrayDeque;
import java.util.ArrayList;
import java.util.Arrays;
import java.util.HashMap;
import java.util.HashSet;
import java.util.List;
import java.util.Map;
import java.util.Set;
import java.util.TreeSet;

/** The document once more, in the plainest way: everything is looked for by trying it. Slow, and without any table. */
final class Model {
    static final long NO = Long.MIN_VALUE;
    private static final int[] ABOVE = {-1, 0, 0, 0, 1, 2, 3};

    /** How all is. */
    static final class State {
        final List<Integer> shores = new ArrayList<>();
        final List<Integer> wants = new ArrayList<>();
        int boat = 0;
        int crossings = 0;
        /** By "a b" (a the lesser one) the crossings gone when they met. */
        final Map<String, Integer> met = new HashMap<>();
        List<Integer> book = new ArrayList<>();
        int parish = -1;
        boolean nobodyForgets = false;

        State copy() {
            State s = new State();
            s.shores.addAll(shores);
            s.wants.addAll(wants);
            s.boat = boat;
            s.crossings = crossings;
            s.met.putAll(met);
            s.book = new ArrayList<>(book);
            s.parish = parish;
            s.nobodyForgets = nobodyForgets;
            return s;
        }

        String key() {
            return shores + " " + boat + " " + new TreeSet<>(met.keySet());
        }

        List<Integer> members(int group) {
            List<Integer> members = new ArrayList<>();
            for (int p = 0; p < 31; p++) {
                if ((group >> p & 1) == 1) {
                    members.add(p);
                }
            }
            return members;
        }
    }

    private static String name(int a, int b) {
        return Math.min(a, b) + " " + Math.max(a, b);
    }

    private State now = new State();
    private State image = null;
    private Map<Integer, int[]> imageRows = null;
    private final StringBuilder text = new StringBuilder();
    private final List<String> parishes = new ArrayList<>();
    private final List<int[]> plans = new ArrayList<>();
    private final Map<Integer, int[]> rows = new HashMap<>();
    private final List<Integer> ran = new ArrayList<>();
    private final Object[] tapes = new Object[6];

    // ---- the language of parishes

    /** The place where no parish begins like this any more, by all ways of going on at once; -1 if it is one. */
    static int fault(String text) {
        Set<String> ways = new HashSet<>();
        for (int clauses = 1; clauses <= 10; clauses++) {
            StringBuilder way = new StringBuilder("C");
            for (int k = 1; k < clauses; k++) {
                way.append(";C");
            }
            ways.add(way.toString());
        }
        for (int at = 0; at < text.length(); at++) {
            Set<String> open = expand(ways);
            ways = new HashSet<>();
            for (String way : open) {
                if (!way.isEmpty() && way.charAt(0) == text.charAt(at)) {
                    ways.add(way.substring(1));
                }
            }
            if (ways.isEmpty()) {
                return at;
            }
        }
        return expand(ways).contains("") ? -1 : text.length();
    }

    /** Replaces C, N, D, and E, T, F (each with its depth behind it), X and Y till a sign stands first. */
    private static Set<String> expand(Set<String> ways) {
        Set<String> done = new HashSet<>();
        ArrayDeque<String> todo = new ArrayDeque<>(ways);
        while (!todo.isEmpty()) {
            String way = todo.pop();
            if (way.isEmpty() || "CNDETFXY".indexOf(way.charAt(0)) < 0) {
                done.add(way);
                continue;
            }
            for (String part : parts(way)) {
                todo.push(part);
            }
        }
        return done;
    }

    private static List<String> parts(String way) {
        char head = way.charAt(0);
        String rest = way.substring(1);
        List<String> parts = new ArrayList<>();
        if (head == 'C') {
            for (String c : new String[] {"holds N", "least N", "forget N", "bar E0", "worth N E0"}) {
                parts.add(c + rest);
            }
        } else if (head == 'N') {
            parts.add("D" + rest);
            parts.add("DD" + rest);
        } else if (head == 'D' || head == 'X' || head == 'Y') {
            String signs = head == 'D' ? "0123456789" : head == 'X' ? "abnwsc" : "<=>";
            for (char c : signs.toCharArray()) {
                parts.add(c + rest);
            }
        } else {
            int depth = rest.charAt(0) - '0';
            String behind = rest.substring(1);
            if (head == 'E') {
                parts.add("T" + depth + behind);
                parts.add("T" + depth + "|E" + depth + behind);
            } else if (head == 'T') {
                parts.add("F" + depth + behind);
                parts.add("F" + depth + "&T" + depth + behind);
            } else {
                parts.add("XYN" + behind);
                if (depth < 4) {
                    parts.add("!F" + (depth + 1) + behind);
                    parts.add("(E" + (depth + 1) + ")" + behind);
                }
            }
        }
        return parts;
    }

    static boolean holds(String e, Map<Character, Integer> values) {
        for (char sign : new char[] {'|', '&'}) {
            int depth = 0;
            for (int k = 0; k < e.length(); k++) {
                char c = e.charAt(k);
                depth += c == '(' ? 1 : c == ')' ? -1 : 0;
                if (depth == 0 && c == sign) {
                    boolean left = holds(e.substring(0, k), values);
                    boolean right = holds(e.substring(k + 1), values);
                    return sign == '|' ? left || right : left && right;
                }
            }
        }
        if (e.startsWith("!")) {
            return !holds(e.substring(1), values);
        }
        if (e.startsWith("(")) {
            return holds(e.substring(1, e.length() - 1), values);
        }
        int value = values.getOrDefault(e.charAt(0), 99);
        int number = Integer.parseInt(e.substring(2));
        return e.charAt(1) == '<' ? value < number : e.charAt(1) == '=' ? value == number : value > number;
    }

    private String[] clauses(State s) {
        return s.parish < 0 ? new String[0] : parishes.get(s.parish).split(";");
    }

    private int last(State s, String word, int without) {
        int n = without;
        for (String clause : clauses(s)) {
            if (clause.startsWith(word)) {
                n = Integer.parseInt(clause.substring(word.length() + 1));
            }
        }
        return n;
    }

    private boolean isBarred(State s, int a, int b) {
        Map<Character, Integer> values = Map.of('a', Math.min(a, b), 'b', Math.max(a, b));
        for (String clause : clauses(s)) {
            if (clause.startsWith("bar") && holds(clause.substring(4), values)) {
                return true;
            }
        }
        return false;
    }

    private boolean knows(State s, int a, int b) {
        Integer when = s.met.get(name(a, b));
        int forget = last(s, "forget", 0);
        return when != null && (s.nobodyForgets || forget == 0 || s.crossings - when < forget);
    }

    /** How all is with those who know one another now as the only ones who met, and nobody forgetting. */
    private State frozen(State s) {
        State f = s.copy();
        f.met.clear();
        for (int a = 0; a < s.shores.size(); a++) {
            for (int b = a + 1; b < s.shores.size(); b++) {
                if (knows(s, a, b)) {
                    f.met.put(name(a, b), s.crossings);
                }
            }
        }
        f.nobodyForgets = true;
        return f;
    }

    private boolean apart(State s, int group) {
        for (int a : s.members(group)) {
            for (int b : s.members(group)) {
                if (a < b && (knows(s, a, b) || isBarred(s, a, b))) {
                    return false;
                }
            }
        }
        return true;
    }

    private boolean may(State s, int group) {
        List<Integer> members = s.members(group);
        if (members.size() < Math.max(1, last(s, "least", 1)) || members.size() > last(s, "holds", 2)) {
            return false;
        }
        for (int p : members) {
            if (p >= s.shores.size() || s.shores.get(p) != s.boat) {
                return false;
            }
        }
        return apart(s, group);
    }

    private List<Integer> all(State s) {
        List<Integer> all = new ArrayList<>();
        for (int group = 1; group < 32; group++) {
            if (may(s, group)) {
                all.add(group);
            }
        }
        return all;
    }

    private State gone(State s, int group) {
        State g = s.copy();
        g.crossings++;
        for (int a : s.members(group)) {
            g.shores.set(a, 1 - s.boat);
            for (int b : s.members(group)) {
                if (a < b) {
                    g.met.put(name(a, b), g.crossings);
                }
            }
        }
        g.boat = 1 - s.boat;
        return g;
    }

    private int wantingOther(State s, int group) {
        int many = 0;
        for (int p : s.members(group)) {
            many += s.wants.get(p) != s.boat ? 1 : 0;
        }
        return many;
    }

    private int worth(State s, int group) {
        Map<Character, Integer> values = Map.of('n', s.members(group).size(), 'w', wantingOther(s, group), 's', s.boat,
            'c', s.crossings % 60);
        int worth = 0;
        for (String clause : clauses(s)) {
            if (clause.startsWith("worth")) {
                String[] words = clause.split(" ");
                worth += holds(words[2], values) ? Integer.parseInt(words[1]) : 0;
            }
        }
        return worth;
    }

    // ---- plans

    private int pick(State s, int plan) {
        return pickAs(s, plan, plans.get(plan)[0]);
    }

    private int pickAs(State s, int plan, int kind) {
        List<Integer> all = all(s);
        if (all.isEmpty()) {
            return -5;
        }
        int turn = plans.get(plan)[1] + s.crossings;
        switch (kind) {
            case 0:
                return all.get(0);
            case 3:
                return all.get(turn % all.size());
            case 6:
                int fewest = 9;
                for (int g : all) {
                    fewest = Math.min(fewest, s.members(g).size());
                }
                List<Integer> few = new ArrayList<>();
                for (int g : all) {
                    if (s.members(g).size() == fewest) {
                        few.add(g);
                    }
                }
                return few.get(turn % few.size());
            case 5:
                int told = rows.get(plan)[s.crossings % 3];
                return all.contains(told) ? told : pickAs(s, plan, 2);
            default:
                int best = -5;
                for (int g : all) {
                    if (best == -5 || better(s, kind, g, best)) {
                        best = g;
                    }
                }
                return best;
        }
    }

    private boolean better(State s, int kind, int g, int best) {
        if (kind == 2) {
            int ofG = wantingOther(s, g) - (s.members(g).size() - wantingOther(s, g)) / 2;
            int ofBest = wantingOther(s, best) - (s.members(best).size() - wantingOther(s, best)) / 2;
            return ofG > ofBest;
        }
        if (kind == 4) {
            int ofG = longest(gone(s, g));
            int ofBest = longest(gone(s, best));
            if (ofG != ofBest) {
                return ofG > ofBest;
            }
        }
        return s.members(g).size() > s.members(best).size();
    }

    /** Where a run ends, and behind it its worth. */
    private int sail(int plan, int n, State[] end) {
        int worth = 0;
        State s = now.copy();
        for (int k = 0; k < n; k++) {
            int g = pick(s, plan);
            if (g == -5) {
                break;
            }
            worth += worth(s, g);
            s = gone(s, g);
        }
        end[0] = s;
        return worth;
    }

    private static int across(State s) {
        int bits = 0;
        for (int p = 0; p < s.shores.size(); p++) {
            bits |= s.shores.get(p) << p;
        }
        return bits;
    }

    // ---- what can be

    private int longest(State s) {
        return longestOf(frozen(s), new HashMap<>());
    }

    private int longestOf(State s, Map<String, Integer> done) {
        Integer known = done.get(s.key());
        if (known != null) {
            return known;
        }
        int most = 0;
        for (int g : all(s)) {
            if (s.members(g).size() >= 2) {
                most = Math.max(most, 1 + longestOf(gone(s, g), done));
            }
        }
        done.put(s.key(), most);
        return most;
    }

    private int stepsHome(State from, int bound) {
        Set<String> seen = new HashSet<>();
        List<State> front = new ArrayList<>(List.of(from));
        for (int steps = 0; steps <= bound; steps++) {
            List<State> next = new ArrayList<>();
            for (State s : front) {
                if (s.shores.equals(s.wants)) {
                    return steps;
                }
                for (int g : all(s)) {
                    State behind = gone(s, g);
                    if (seen.add(behind.key())) {
                        next.add(behind);
                    }
                }
            }
            front = next;
        }
        return -5;
    }

    int home(int what) {
        if (what != 0 && what != 1) {
            return -1;
        }
        State f = frozen(now);
        int steps = stepsHome(f, 30);
        if (what == 0 || steps <= 0) {
            return steps;
        }
        for (int g : all(f)) {
            if (stepsHome(gone(f, g), steps - 1) == steps - 1) {
                return g;
            }
        }
        throw new IllegalStateException("a row without a first group");
    }

    int left() {
        State f = frozen(now);
        Set<String> seen = new HashSet<>(Set.of(f.key()));
        ArrayDeque<State> todo = new ArrayDeque<>(List.of(f));
        int left = (1 << now.shores.size()) - 1;
        while (!todo.isEmpty() && left != 0) {
            State s = todo.pop();
            for (int g : all(s)) {
                if (s.members(g).size() >= 2) {
                    left &= ~g;
                }
                State behind = gone(s, g);
                if (seen.add(behind.key())) {
                    todo.push(behind);
                }
            }
        }
        return left;
    }

    int circle() {
        int best = 0;
        for (int g = 1; g < 1 << now.shores.size(); g++) {
            if (apart(now, g) && now.members(g).size() > now.members(best).size()) {
                best = g;
            }
        }
        return best;
    }

    int strangers() {
        for (int n = 0; n <= 4; n++) {
            State s = now.copy();
            for (int k = 0; k < n; k++) {
                s.shores.add(s.boat);
            }
            for (int g = 1; g < 1 << s.shores.size(); g++) {
                if (s.members(g).size() == last(s, "holds", 2) && strangersMay(s, g)) {
                    return n;
                }
            }
        }
        return -5;
    }

    private boolean strangersMay(State s, int group) {
        if (s.members(group).size() < last(s, "least", 1)) {
            return false;
        }
        for (int a : s.members(group)) {
            if (s.shores.get(a) != s.boat) {
                return false;
            }
        }
        return apart(s, group & (1 << now.shores.size()) - 1);
    }

    int price(int a, int b) {
        if (!there(a) || !there(b)) {
            return -1;
        }
        if (a == b) {
            return -2;
        }
        State s = now.copy();
        s.met.put(name(a, b), s.crossings);
        return longest(now) - longest(s);
    }

    // ---- lots

    private BigInteger[] plus(BigInteger[] a, BigInteger[] b) {
        return new BigInteger[] {a[0].multiply(b[1]).add(b[0].multiply(a[1])), a[1].multiply(b[1])};
    }

    private BigInteger[] mean(State s, int n, boolean likely) {
        List<Integer> all = all(s);
        if (n == 0 || all.isEmpty()) {
            int right = 0;
            for (int p = 0; p < s.shores.size(); p++) {
                right += s.shores.get(p).equals(s.wants.get(p)) ? 1 : 0;
            }
            return new BigInteger[] {BigInteger.valueOf(!likely ? right : n == 0 ? 1 : 0), BigInteger.ONE};
        }
        BigInteger[] sum = {BigInteger.ZERO, BigInteger.ONE};
        for (int g : all) {
            sum = plus(sum, mean(gone(s, g), n - 1, likely));
            BigInteger d = sum[0].gcd(sum[1]);
            sum = new BigInteger[] {sum[0].divide(d), sum[1].divide(d)};
        }
        return new BigInteger[] {sum[0], sum[1].multiply(BigInteger.valueOf(all.size()))};
    }

    private long part(BigInteger[] fraction, int part) {
        return fraction[part].divide(fraction[0].gcd(fraction[1])).longValueExact();
    }

    long likely(int n, int part) {
        return n < 1 || n > 3 || part < 0 || part > 1 ? NO : part(mean(now, n, true), part);
    }

    long wanted(int n, int part) {
        return n < 0 || n > 2 || part < 0 || part > 1 ? NO : part(mean(now, n, false), part);
    }

    // ---- the rest of the face

    private boolean there(int person) {
        return person >= 0 && person < now.shores.size();
    }

    private static boolean within(int n, int least, int most) {
        return n >= least && n <= most;
    }

    int person(int shore, int wants) {
        if (!within(shore, 0, 1) || !within(wants, 0, 1)) {
            return -1;
        }
        if (now.shores.size() == 5) {
            return -4;
        }
        now.shores.add(shore);
        now.wants.add(wants);
        return now.shores.size() - 1;
    }

    int of(int person, int what) {
        if (!there(person) || !within(what, 0, 2)) {
            return -1;
        }
        if (what < 2) {
            return (what == 0 ? now.shores : now.wants).get(person);
        }
        int many = 0;
        for (int p = 0; p < now.shores.size(); p++) {
            many += p != person && knows(now, p, person) ? 1 : 0;
        }
        return many;
    }

    int set(int person, int what, int shore) {
        if (!there(person) || !within(what, 0, 1) || !within(shore, 0, 1)) {
            return -1;
        }
        return (what == 0 ? now.shores : now.wants).set(person, shore);
    }

    int meet(int a, int b, boolean is) {
        if (!there(a) || !there(b)) {
            return -1;
        }
        if (a == b) {
            return -2;
        }
        int knew = knows(now, a, b) ? 1 : 0;
        now.met.remove(name(a, b));
        if (is) {
            now.met.put(name(a, b), now.crossings);
        }
        return knew;
    }

    int boat(int shore) {
        if (!within(shore, 0, 1)) {
            return -1;
        }
        int was = now.boat;
        now.boat = shore;
        return was;
    }

    int feed(int sign) {
        if (!within(sign, 0, 127)) {
            return -2;
        }
        if (text.length() == 100) {
            return -4;
        }
        text.append((char) sign);
        return text.length();
    }

    int parish() {
        if (parishes.size() == 6) {
            return -4;
        }
        String read = text.toString();
        text.setLength(0);
        int fault = fault(read);
        if (fault >= 0) {
            return -10 - fault;
        }
        parishes.add(read);
        now.parish = parishes.size() - 1;
        return now.parish;
    }

    int told(int what) {
        int pairs = 0;
        for (int a = 0; a < now.shores.size(); a++) {
            for (int b = 0; b < a; b++) {
                pairs += knows(now, a, b) ? 1 : 0;
            }
        }
        int[] answers = {last(now, "holds", 2), last(now, "least", 1), last(now, "forget", 0), now.boat, now.crossings,
            pairs};
        return within(what, 0, 5) ? answers[what] : -1;
    }

    int pair(int a, int b, int what) {
        if (!there(a) || !there(b) || !within(what, 0, 2)) {
            return -1;
        }
        if (a == b) {
            return -2;
        }
        Integer when = now.met.get(name(a, b));
        int since = when == null ? -5 : now.crossings - when;
        return what == 0 ? knows(now, a, b) ? 1 : 0 : what == 1 ? isBarred(now, a, b) ? 1 : 0 : since;
    }

    int plan(int kind, int v) {
        if (!within(kind, 0, 6)) {
            return -1;
        }
        if (!within(v, 0, 9)) {
            return -2;
        }
        if (plans.size() == 10) {
            return -4;
        }
        plans.add(new int[] {kind, v});
        if (kind == 5) {
            rows.put(plans.size() - 1, new int[3]);
        }
        return plans.size() - 1;
    }

    private boolean isPlan(int plan) {
        return within(plan, 0, plans.size() - 1);
    }

    int by(int plan, int what) {
        if (!isPlan(plan) || !within(what, 0, 2)) {
            return -1;
        }
        return what == 2 ? pick(now, plan) : plans.get(plan)[what];
    }

    int row(int plan, int part, int group) {
        if (!isPlan(plan) || !within(part, 0, 2)) {
            return -1;
        }
        if (!within(group, 0, 31)) {
            return -2;
        }
        if (plans.get(plan)[0] != 5) {
            return -3;
        }
        int was = rows.get(plan)[part];
        rows.get(plan)[part] = group;
        return was;
    }

    private boolean isGroup(int group) {
        return within(group, 1, (1 << now.shores.size()) - 1);
    }

    int group(int group, int what) {
        if (!within(what, 0, 1)) {
            return -10001;
        }
        if (!isGroup(group)) {
            return -10002;
        }
        return what == 1 ? worth(now, group) : may(now, group) ? 1 : 0;
    }

    int groups() {
        return all(now).size();
    }

    int cross(int group) {
        if (!isGroup(group)) {
            return -10002;
        }
        if (!may(now, group)) {
            return -10003;
        }
        int worth = worth(now, group);
        now = gone(now, group);
        return worth;
    }

    int run(int plan, int n, int what) {
        if (!isPlan(plan) || !within(what, 0, 3)) {
            return -10001;
        }
        if (!within(n, 0, 40)) {
            return -10002;
        }
        State[] end = new State[1];
        int worth = sail(plan, n, end);
        return new int[] {end[0].crossings - now.crossings, across(end[0]), worth, end[0].boat}[what];
    }

    int longest() {
        return longest(now);
    }

    int book(int group) {
        if (group == -1) {
            now.book.clear();
            return 0;
        }
        if (!within(group, 1, 31)) {
            return -2;
        }
        if (now.book.size() == 12) {
            return -4;
        }
        now.book.add(group);
        return now.book.size();
    }

    int readBook() {
        State s = now.copy();
        int gone = 0;
        for (int g : now.book) {
            if (!may(s, g)) {
                break;
            }
            s = gone(s, g);
            gone++;
        }
        return gone;
    }

    int judge(int tape, int i, int plan, int n) {
        if (!within(tape, 0, 5) || !isPlan(plan)) {
            return -1;
        }
        if (!within(n, 0, 40)) {
            return -2;
        }
        if (tapes[tape] != null && !(tapes[tape] instanceof boolean[])) {
            return -12;
        }
        if (now.shores.isEmpty()) {
            return -5;
        }
        if (i < 0 || tapes[tape] == null) {
            return 100;
        }
        boolean[] told = (boolean[]) tapes[tape];
        State[] end = new State[1];
        sail(plan, n, end);
        for (int p = 0; p < now.shores.size(); p++) {
            if (i >= told.length - p) {
                return 100 + p;
            }
            if (told[i + p] != (end[0].shores.get(p) == 1)) {
                return p;
            }
        }
        return -5;
    }

    int image() {
        image = now.copy();
        imageRows = new HashMap<>();
        for (int plan : rows.keySet()) {
            imageRows.put(plan, rows.get(plan).clone());
        }
        return now.shores.size();
    }

    int undo() {
        if (image == null) {
            return -3;
        }
        now = image.copy();
        for (int plan : rows.keySet()) {
            rows.put(plan, imageRows.containsKey(plan) ? imageRows.get(plan).clone() : new int[3]);
        }
        return now.shores.size();
    }

    // ---- acts

    int act(int plan, int act, int x) {
        ran.clear();
        return isPlan(plan) && within(act, 0, 2) ? act(plan, act, x, plans.get(plan)[0]) : 0;
    }

    /** The body of a kind, or of the next one above that has one. */
    private int act(int plan, int act, int x, int from) {
        Set<String> bodies = Set.of("0 0", "0 1", "0 2", "1 1", "2 0", "3 2", "4 0", "4 1", "5 2", "6 1", "6 0");
        int at = from;
        while (!bodies.contains(at + " " + act)) {
            at = ABOVE[at];
        }
        int kind = plans.get(plan)[0];
        int v = plans.get(plan)[1];
        int up = ABOVE[at];
        switch (at + " " + act) {
            case "0 0": ran.add(10); return x + plan;
            case "0 1": ran.add(11); return act(plan, 0, x, kind) - v;
            case "0 2": ran.add(12); return act(plan, 1, x, kind) * 2;
            case "1 1": ran.add(20); return act(plan, 1, x, up) ^ 6;
            case "2 0": ran.add(30); return act(plan, 0, x * 3, up);
            case "3 2": ran.add(40); return act(plan, 2, x, up) + act(plan, 1, 1, kind);
            case "4 0": ran.add(50); return -act(plan, 0, x, up);
            case "4 1": ran.add(51); return act(plan, 1, x + 1, up);
            case "5 2": ran.add(60); return act(plan, 2, x - plan, up);
            case "6 1": ran.add(70); return act(plan, 1, x, up) + act(plan, 0, 2, up);
            default: ran.add(71); return act(plan, 0, x, up) ^ v;
        }
    }

    int trace(int i) {
        return within(i, 0, Math.min(20, ran.size()) - 1) ? ran.get(i) : -1;
    }

    int taken(int plan, int k) {
        if (!within(k, 0, 6)) {
            return -2;
        }
        if (!isPlan(plan)) {
            return -11;
        }
        int kind = plans.get(plan)[0];
        for (int at = kind; at >= 0; at = ABOVE[at]) {
            if (at == k) {
                return kind;
            }
        }
        return -12;
    }

    int count(int what) {
        int[] counts = {now.shores.size(), parishes.size(), plans.size(), now.book.size(), text.length(), ran.size()};
        return within(what, 0, 5) ? counts[what] : -2;
    }

    // ---- tapes, as arrays of their own sorts

    int tape(int tape, int sort, int n) {
        if (!within(tape, 0, 5)) {
            return -1;
        }
        if (!within(sort, -1, 4) || sort != -1 && n > 60) {
            return -2;
        }
        if (sort != -1 && n < 0) {
            return -14;
        }
        tapes[tape] = sort == -1 ? null : sort == 0 ? new byte[n] : sort == 1 ? new short[n] : sort == 2 ? new int[n]
            : sort == 3 ? new long[n] : new boolean[n];
        return 1;
    }

    private static int length(Object row) {
        return row == null ? 0 : java.lang.reflect.Array.getLength(row);
    }

    int item(int tape, int i, long v) {
        if (!within(tape, 0, 5)) {
            return -1;
        }
        Object row = tapes[tape];
        if (row == null) {
            return -11;
        }
        if (!within(i, 0, length(row) - 1)) {
            return -13;
        }
        if (row instanceof byte[]) {
            ((byte[]) row)[i] = (byte) v;
        } else if (row instanceof short[]) {
            ((short[]) row)[i] = (short) v;
        } else if (row instanceof int[]) {
            ((int[]) row)[i] = (int) v;
        } else if (row instanceof long[]) {
            ((long[]) row)[i] = v;
        } else {
            ((boolean[]) row)[i] = v != 0;
        }
        return 1;
    }

    long read(int tape, int i) {
        if (!within(tape, 0, 5) || !within(i, 0, length(tapes[tape]) - 1)) {
            return NO;
        }
        if (tapes[tape] instanceof boolean[]) {
            return ((boolean[]) tapes[tape])[i] ? 1 : 0;
        }
        return java.lang.reflect.Array.getLong(tapes[tape], i);
    }

    int shift(int tape, int i, int other, int j, int n) {
        if (!within(tape, 0, 5) || !within(other, 0, 5)) {
            return -1;
        }
        Object from = tapes[tape];
        Object to = tapes[other];
        if (from == null || to == null) {
            return -11;
        }
        if (from.getClass() != to.getClass()) {
            return -12;
        }
        if (Arrays.stream(new int[] {n, i, j}).min().getAsInt() < 0 || (long) i + n > length(from)
            || (long) j + n > length(to)) {
            return -13;
        }
        System.arraycopy(from, i, to, j, n);
        return n;
    }
}
