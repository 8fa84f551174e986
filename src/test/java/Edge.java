import java.io.IOException;
import java.nio.charset.StandardCharsets;
import java.nio.file.Files;
import java.nio.file.Path;

/** The sentences of the document, and what is due by each of them: no sentence stays without a test. */
final class Edge {
    /** The place of the Terms ahead of the promises 1 to 38. */
    static final int TERMS = 0;
    private static final int PROMISES = 38;
    private static final String[] sections = new String[PROMISES + 1];
    private static final boolean[][] tested = new boolean[PROMISES + 1][];
    private static String sentence = "";
    private static int sentences = 0;
    private static int passed = 0;
    private static int failed = 0;

    private Edge() {
    }

    /** Reads the document: its Terms and what each promise says. */
    static void read(Path file) throws IOException {
        String document = new String(Files.readAllBytes(file), StandardCharsets.UTF_8);
        String terms = between(document, "## Terms\n", "\n## Promise 1:");
        sections[TERMS] = terms.replaceAll("(?m)^(```.*|==== \\d|Ahead of the calls.*)", "").replaceAll("\\s+", " ");
        for (int promise = 1; promise <= PROMISES; promise++) {
            String body = between(document + "\n## ", "## Promise " + promise + ":", "\n## ");
            sections[promise] = body.substring(body.indexOf("`: ") + 3).replaceAll("\\s+", " ");
        }
        for (int k = 0; k < sections.length; k++) {
            tested[k] = new boolean[sections[k].length()];
        }
    }

    private static String between(String text, String from, String to) {
        int start = text.indexOf(from);
        if (start < 0) {
            throw new IllegalStateException("the document has no " + from);
        }
        return text.substring(start + from.length(), text.indexOf(to, start + from.length()));
    }

    /** What follows holds this sentence of a promise (or of the Terms). */
    static void says(int promise, String words) {
        sentence = (promise == TERMS ? "Terms" : "promise " + promise) + ", \"" + words + "\"";
        sentences++;
        boolean stands = false;
        for (int at = sections[promise].indexOf(words); at >= 0; at = sections[promise].indexOf(words, at + 1)) {
            stands = true;
            for (int k = 0; k < words.length(); k++) {
                tested[promise][at + k] = true;
            }
        }
        if (!stands) {
            fail("the document does not say so");
        }
    }

    static void due(String call, long got, long want) {
        if (got == want) {
            passed++;
        } else {
            fail(call + " answered " + got + ", due is " + want);
        }
    }

    private static void fail(String what) {
        failed++;
        if (failed <= 60) {
            System.out.println(sentence + ": " + what);
        }
    }

    /** What the document says and no test holds is a fault, too. */
    static int end() {
        for (int k = 0; k < sections.length; k++) {
            StringBuilder open = new StringBuilder();
            for (int at = 0; at < tested[k].length; at++) {
                open.append(tested[k][at] || !Character.isLetterOrDigit(sections[k].charAt(at)) ? ' ' : sections[k].charAt(at));
            }
            String left = open.toString().trim().replaceAll(" +", " ");
            if (!left.isEmpty()) {
                sentence = k == TERMS ? "Terms" : "promise " + k;
                fail("no test holds: " + left);
            }
        }
        System.out.println("EdgesTest: " + sentences + " sentences, " + passed + " checks as due, " + failed + " not");
        return failed;
    }

    // ---- objects to look at

    /** An object with people, each told by two digits: the shore, and the one that is wanted. */
    static OnlyStrangers people(String... each) {
        OnlyStrangers x = new OnlyStrangers();
        for (String one : each) {
            x.person(one.charAt(0) - '0', one.charAt(1) - '0');
        }
        return x;
    }

    /** An object with so many people on shore 0 who want shore 1. */
    static OnlyStrangers crowd(int people) {
        OnlyStrangers x = new OnlyStrangers();
        for (int p = 0; p < people; p++) {
            x.person(0, 1);
        }
        return x;
    }

    static void feed(OnlyStrangers x, String text) {
        for (int k = 0; k < text.length(); k++) {
            x.feed(text.charAt(k));
        }
    }

    static int parish(OnlyStrangers x, String text) {
        feed(x, text);
        return x.parish();
    }

    /** The same with a parish that is there, or it is told that it is not. */
    static OnlyStrangers with(OnlyStrangers x, String text) {
        int number = parish(x, text);
        if (number < 0) {
            fail("the text " + text + " is none: " + number);
        }
        return x;
    }

    /** One goes alone over and over, so many times, and is where one was if they are even. */
    static void time(OnlyStrangers x, int person, int crossings) {
        for (int k = 0; k < crossings; k++) {
            x.cross(1 << person);
        }
    }
}
