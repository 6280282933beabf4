import java.io.IOException;
import java.lang.reflect.Field;
import java.lang.reflect.Member;
import java.lang.reflect.Method;
import java.lang.reflect.Modifier;
import java.nio.file.Files;
import java.nio.file.Path;
import java.util.Arrays;
import java.util.HashMap;
import java.util.HashSet;
import java.util.Map;
import java.util.Set;
import java.util.TreeSet;
import java.util.regex.Matcher;
import java.util.regex.Pattern;

/** The public face, and what of the program's language can be seen without a compiler of its own. */
public final class FaceTest {
    private static final String[] FACE = {"int feed(int,int,int,int,int)", "boolean end(int)", "int court()", "int fault(int)",
        "int has(int)", "int letter(int,int,int)", "int kind(int,int)", "int test(int,int)", "int mark(int,int)",
        "int yields(int,int,int)", "int kept(int,int)", "long weight(int,int,int)", "int odds(int)", "int kinds(int,int)",
        "int would(int,int)", "long merit(int)", "int best()", "int parts(int,int)", "int sure(int)", "int ahead(int,int)",
        "int known(int,int)", "int tell()", "int trick()", "boolean hear(int,int,int)", "boolean look(int,int,int)",
        "int judge(int)", "int chance(int)", "boolean undo()", "boolean seed(int)", "long ask()", "int image()", "int octet(int)",
        "boolean on()", "int status(int)"};

    // a method's head, its body's lines, and the end at the head's own indentation
    private static final Pattern METHOD =
        Pattern.compile("(?m)^( {4}| {8})((?:\\w+ )*)(?:[\\w\\[\\]]+ )(\\w+)\\(([^()]*)\\) \\{\n((?:.*\n)*?)\\1\\}$");
    private static final Pattern CALLED = Pattern.compile("(?<![\\w.])(\\w+)\\(");

    public static void main(String[] args) throws IOException {
        methods();
        fields();
        nested();
        words();
        methodsInTheText();
        Checks.finish();
    }

    private static String told(Method method) {
        StringBuilder all = new StringBuilder();
        for (Class<?> type : method.getParameterTypes()) {
            all.append(all.length() == 0 ? "" : ",").append(type);
        }
        return method.getReturnType() + " " + method.getName() + "(" + all + ")";
    }

    private static boolean isHidden(Member member) {
        return Modifier.isPrivate(member.getModifiers()) || member.isSynthetic();
    }

    private static void methods() {
        Set<String> seen = new TreeSet<>();
        Set<String> names = new TreeSet<>();
        for (Method method : KingsTest.class.getDeclaredMethods()) {
            if (!isHidden(method)) {
                Checks.due("public " + method, Modifier.isPublic(method.getModifiers()), true);
                seen.add(told(method));
                names.add(method.getName());
            }
        }
        Checks.due("the face's methods", seen.equals(new TreeSet<>(Arrays.asList(FACE))), true);
        for (Method method : KingsTest.class.getDeclaredMethods()) {
            if (Modifier.isPrivate(method.getModifiers())) {
                Checks.due("a name of its own: " + method, names.contains(method.getName()), false);
            }
        }
        Checks.due("one constructor", KingsTest.class.getConstructors().length, 1);
        Checks.due("no other", KingsTest.class.getDeclaredConstructors().length, 1);
        Checks.due("final", Modifier.isFinal(KingsTest.class.getModifiers()), true);
    }

    private static void fields() {
        int open = 0;
        for (Field field : KingsTest.class.getDeclaredFields()) {
            open += isHidden(field) ? 0 : 1;
        }
        Checks.due("the face's constants", open, 2);
        Checks.due("NONE", KingsTest.NONE, -1);
        Checks.due("NOTHING", KingsTest.NOTHING, -1000000000000000L);
    }

    private static void nested() {
        Class<?>[] all = KingsTest.class.getDeclaredClasses();
        Checks.due("at most twelve classes", all.length <= 11, true);
        for (Class<?> one : all) {
            Checks.due("static " + one, Modifier.isStatic(one.getModifiers()), true);
            Checks.due("none inside " + one, one.getDeclaredClasses().length, 0);
            int fields = 0;
            for (Field field : one.getDeclaredFields()) {
                boolean constant = Modifier.isStatic(field.getModifiers());
                fields += constant ? 0 : 1;
                Checks.due("final if static: " + field, !constant || Modifier.isFinal(field.getModifiers()), true);
            }
            Checks.due("fields of " + one, fields <= 20, true);
        }
    }

    private static void words() throws IOException {
        String text = Files.readString(Path.of("src/main/java/KingsTest.java"));
        String code = text.replaceAll("(?s)/\\*.*?\\*/", " ").replaceAll("//[^\n]*", " ").replaceAll("\"[^\"\n]*\"", "\"\"");
        for (String word : new String[] {"throw", "throws", "try", "catch", "synchronized", "assert", "instanceof", "package",
            "lambda", "float", "double", "Object", "hashCode", "toString", "random", "Random", "Exact", "println", "nanoTime"}) {
            Checks.due("no " + word, code.matches("(?s).*\\b" + word + "\\b.*"), false);
        }
        Checks.due("no arrow or method reference", code.contains("->") || code.contains("::"), false);
        Checks.due("no texts joined by +", code.contains("\"\" +") || code.contains("+ \"\""), false);
        Checks.due("signs 1 to 127", text.chars().allMatch(c -> c > 0 && c < 128), true);
        int made = 0;
        int at = code.indexOf("public int feed");
        Checks.due("a face to begin with", at > 0, true);
        // behind the fields and constructors nothing is made: all calls share one room
        for (String line : code.split("\n")) {
            boolean makes = line.contains("new ") && !line.contains(" = new ") && !line.contains("] = new ");
            made += makes ? 1 : 0;
        }
        Checks.due("nothing is made in passing", made, 0);
    }

    private static void methodsInTheText() throws IOException {
        String text = Files.readString(Path.of("src/main/java/KingsTest.java"));
        int seen = 0;
        for (String one : text.split("(?m)^    private static final class ")) {
            Map<String, Set<String>> calls = new HashMap<>();
            Set<String> hidden = new HashSet<>();
            for (Matcher method = METHOD.matcher(one); method.find();) {
                seen++;
                String name = method.group(3);
                String body = method.group(5);
                Checks.due("11: lines of " + name, body.split("\n").length <= 58, true);
                Checks.due("11: parameters of " + name, method.group(4).split(",").length <= 7, true);
                Set<String> called = calls.computeIfAbsent(name, none -> new HashSet<>());
                for (Matcher call = CALLED.matcher(body); call.find();) {
                    called.add(call.group(1));
                }
                if (method.group(2).contains("private ")) {
                    hidden.add(name);
                }
            }
            for (String name : calls.keySet()) {
                boolean again = reaches(calls, name, name, new HashSet<>());
                Checks.due("8: recursion by private methods alone: " + name, !again || hidden.contains(name), true);
            }
        }
        Checks.due("the methods of all classes are seen", seen > 130, true);
    }

    private static boolean reaches(Map<String, Set<String>> calls, String from, String to, Set<String> been) {
        for (String next : calls.getOrDefault(from, Set.of())) {
            if (next.equals(to) || been.add(next) && reaches(calls, next, to, been)) {
                return true;
            }
        }
        return false;
    }
}
