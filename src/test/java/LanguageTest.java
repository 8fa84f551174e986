import java.io.IOException;
import java.lang.reflect.Constructor;
import java.lang.reflect.Field;
import java.lang.reflect.Member;
import java.lang.reflect.Method;
import java.lang.reflect.Modifier;
import java.nio.charset.StandardCharsets;
import java.nio.file.Files;
import java.nio.file.Path;
import java.util.ArrayList;
import java.util.List;
import java.util.TreeSet;
import java.util.regex.Matcher;
import java.util.regex.Pattern;

/** The rules of LANGUAGE.md that can be seen from the file and from its face. */
public final class LanguageTest {
    private static final String FACE = "act(int,int,int):int boat(int):int book(int):int by(int,int):int circle():int "
        + "count(int):int cross(int):int feed(int):int group(int,int):int groups():int home(int):int image():int "
        + "item(int,int,long):int judge(int,int,int,int):int left():int likely(int,int):long longest():int "
        + "meet(int,int,boolean):int of(int,int):int pair(int,int,int):int parish():int person(int,int):int "
        + "plan(int,int):int price(int,int):int read(int,int):long readBook():int row(int,int,int):int "
        + "run(int,int,int):int set(int,int,int):int shift(int,int,int,int,int):int strangers():int taken(int,int):int "
        + "tape(int,int,int):int told(int):int trace(int):int undo():int wanted(int,int):long";
    private static final String[] FORBIDDEN = {"throws?", "try", "catch", "finally", "synchronized", "assert", "import",
        "package", "native", "volatile", "transient", "->", "::", "@", "Exact\\(", "Thread", "Random", "System\\.(?!arraycopy)",
        "static\\s*\\{", "equals\\(Object", "hashCode", "Object\\b", "Class\\b", "\\bforEach", "stream"};
    private static int wrong = 0;

    public static void main(String[] args) throws IOException {
        Path file = Path.of("src/main/java/OnlyStrangers.java");
        String source = new String(Files.readAllBytes(file), StandardCharsets.ISO_8859_1);
        for (int k = 0; k < source.length(); k++) {
            due(source.charAt(k) < 127, "sign " + (int) source.charAt(k) + " at " + k);
        }
        String code = bare(source);
        for (String word : FORBIDDEN) {
            String whole = Character.isLetter(word.charAt(0)) ? "\\b" + word + (word.matches("\\w+\\??") ? "\\b" : "") : word;
            Matcher found = Pattern.compile(whole).matcher(code);
            due(!found.find(), "the code holds " + word);
        }
        methods(code);
        face();
        System.out.println("LanguageTest: " + wrong + " rules broken");
        if (wrong != 0) {
            System.exit(1);
        }
    }

    private static void due(boolean is, String what) {
        if (!is) {
            wrong++;
            System.out.println("LANGUAGE.md: " + what);
        }
    }

    /** The code without comments and with empty texts. */
    private static String bare(String source) {
        String signs = source.replaceAll("'(\\\\.|[^'\\\\])'", "' '").replaceAll("\"(\\\\.|[^\"\\\\])*\"", "\"\"");
        return signs.replaceAll("(?s)/\\*.*?\\*/", "").replaceAll("//[^\n]*", "");
    }

    private static void methods(String code) {
        String[] lines = code.split("\n");
        Pattern head = Pattern.compile("^( {4}| {8})((?:private|public|static|final|abstract) )*[\\w\\[\\]]+ ?[\\w]*\\(([^)]*)\\) \\{$");
        for (int k = 0; k < lines.length; k++) {
            Matcher found = head.matcher(lines[k]);
            if (found.matches()) {
                int end = k;
                while (end < lines.length && !lines[end].equals(found.group(1) + "}")) {
                    end++;
                }
                due(end - k < 60, "a method of more than 60 lines: " + lines[k].trim());
                due(found.group(3).split(",").length <= 7, "more than seven parameters: " + lines[k].trim());
            }
            if (lines[k].matches(".*\\bwhile \\(.*")) {
                due(false, "a loop without a counter: " + lines[k].trim());
            }
            if (lines[k].matches(".*\\bstatic\\b.*[;=].*") && !lines[k].contains("(")) {
                due(lines[k].contains("static final"), "a static field that is not final: " + lines[k].trim());
            }
        }
    }

    private static void face() {
        TreeSet<String> face = new TreeSet<>();
        TreeSet<String> names = new TreeSet<>();
        for (Method method : OnlyStrangers.class.getDeclaredMethods()) {
            if (Modifier.isPublic(method.getModifiers())) {
                names.add(method.getName());
                List<String> types = new ArrayList<>();
                for (Class<?> type : method.getParameterTypes()) {
                    types.add(type.getSimpleName());
                }
                face.add(method.getName() + "(" + String.join(",", types) + "):" + method.getReturnType().getSimpleName());
            }
        }
        due(String.join(" ", face).equals(FACE), "the face is " + String.join(" ", face));
        for (Field field : OnlyStrangers.class.getDeclaredFields()) {
            boolean constant = List.of("NONE", "BAD", "STATE", "FULL", "NO").contains(field.getName());
            due(constant == Modifier.isPublic(field.getModifiers()), "field " + field.getName());
            hidden(field, constant);
        }
        for (Method method : OnlyStrangers.class.getDeclaredMethods()) {
            boolean outer = names.contains(method.getName());
            due(outer == Modifier.isPublic(method.getModifiers()), "a private method with a public name: " + method);
            hidden(method, outer);
        }
        for (Constructor<?> made : OnlyStrangers.class.getDeclaredConstructors()) {
            due(Modifier.isPublic(made.getModifiers()) && made.getParameterCount() == 0, "constructor " + made);
        }
        due(OnlyStrangers.class.getDeclaredClasses().length <= 11, "more than twelve classes");
        for (Class<?> inside : OnlyStrangers.class.getDeclaredClasses()) {
            inside(inside, names);
        }
    }

    private static void hidden(Member member, boolean open) {
        due(open || Modifier.isPrivate(member.getModifiers()), "neither public nor private: " + member.getName());
    }

    private static void inside(Class<?> inside, TreeSet<String> names) {
        due(Modifier.isStatic(inside.getModifiers()), "a class inside that is not static: " + inside);
        due(!Modifier.isPublic(inside.getModifiers()) && !Modifier.isProtected(inside.getModifiers()), "open class " + inside);
        due(inside.getDeclaredClasses().length == 0, "a class within " + inside);
        int fields = 0;
        for (Field field : inside.getDeclaredFields()) {
            fields += Modifier.isStatic(field.getModifiers()) ? 0 : 1;
            due(!Modifier.isStatic(field.getModifiers()) || Modifier.isFinal(field.getModifiers()), "static " + field);
        }
        due(fields <= 20, "more than twenty fields in " + inside);
        for (Method method : inside.getDeclaredMethods()) {
            due(!names.contains(method.getName()), "a method inside with a public name: " + method);
        }
    }
}
