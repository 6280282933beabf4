import java.io.IOException;
import java.lang.reflect.InvocationTargetException;
import java.lang.reflect.Method;
import java.lang.reflect.Modifier;
import java.nio.file.Files;
import java.nio.file.Path;
import java.util.ArrayList;
import java.util.List;
import java.util.regex.Matcher;
import java.util.regex.Pattern;

/** README.md makes calls and tells their answers: each is made here, in its order, on one object. */
public final class ReadmeTest {
    private static final Pattern BLOCK = Pattern.compile("```java\n(.*?)```", Pattern.DOTALL);
    private static final Pattern PUT = Pattern.compile("put\\(x, (.*)\\);");
    private static final Pattern CALL = Pattern.compile("x\\.(\\w+)\\(([^)]*)\\);");
    private static final Pattern ANSWER = Pattern.compile("// (-?\\d+|true|false|NONE|NOTHING)\\b.*");
    private static final Pattern TEXT = Pattern.compile("\"([^\"]*)\"");

    public static void main(String[] args) throws IOException, ReflectiveOperationException {
        String readme = Files.readString(Path.of("README.md"));
        List<String> blocks = new ArrayList<>();
        for (Matcher block = BLOCK.matcher(readme); block.find();) {
            blocks.add(block.group(1));
        }
        putAsTold(blocks.remove(0));
        callsAsTold(blocks);
        allCallsNamed(readme);
        allTestsNamed(readme);
        Checks.finish();
    }

    static void put(KingsTest x, String text) {
        x.end(0);
        for (int from = 0; from < text.length(); from += 20) {
            int[] fed = new int[5];
            for (int i = 0; i < 20; i++) {
                int octet = from + i < text.length() ? text.charAt(from + i) & 255 : ' ';
                fed[i / 4] = fed[i / 4] << 8 | octet;
            }
            x.feed(fed[0], fed[1], fed[2], fed[3], fed[4]);
        }
        x.end(text.length());
    }

    // what README.md shows must be what is used here
    private static void putAsTold(String block) throws IOException {
        String own = Files.readString(Path.of("src/test/java/ReadmeTest.java"));
        Checks.due("put() of README.md", oneBlank(own).contains(oneBlank(block)), true);
    }

    private static String oneBlank(String text) {
        return text.replaceAll("\\s+", " ");
    }

    private static void callsAsTold(List<String> blocks) throws ReflectiveOperationException {
        KingsTest x = null;
        int calls = 0;
        for (String block : blocks) {
            for (String line : block.replaceAll("\n *\\+ ", " + ").split("\n")) {
                Matcher put = PUT.matcher(line);
                if (line.equals("KingsTest x = new KingsTest();")) {
                    x = new KingsTest();
                } else if (put.matches()) {
                    put(x, joined(put.group(1)));
                } else {
                    dueAsTold(x, line);
                    calls++;
                }
            }
        }
        Checks.due("calls of README.md", calls > 50, true);
    }

    private static String joined(String texts) {
        StringBuilder all = new StringBuilder();
        for (Matcher text = TEXT.matcher(texts); text.find();) {
            all.append(text.group(1));
        }
        return all.toString();
    }

    private static void dueAsTold(KingsTest x, String line) throws ReflectiveOperationException {
        Matcher call = CALL.matcher(line);
        Matcher answer = ANSWER.matcher(line);
        if (x == null || !call.lookingAt() || !answer.region(call.end(), line.length()).find()) {
            Checks.due("README.md: a call and its answer: " + line, false, true);
            return;
        }
        Checks.due("README.md: " + line, answerOf(x, call.group(1), call.group(2)), number(answer.group(1)));
    }

    private static long answerOf(KingsTest x, String name, String told) throws ReflectiveOperationException {
        String[] numbers = told.isEmpty() ? new String[0] : told.split(", ");
        Class<?>[] types = new Class<?>[numbers.length];
        Object[] values = new Object[numbers.length];
        for (int i = 0; i < numbers.length; i++) {
            types[i] = int.class;
            values[i] = Integer.decode(numbers[i]);
        }
        try {
            Object answer = KingsTest.class.getMethod(name, types).invoke(x, values);
            return answer instanceof Boolean ? Edges.bit((Boolean) answer) : ((Number) answer).longValue();
        } catch (InvocationTargetException thrown) {
            Checks.due("README.md: " + name + " throws " + thrown.getCause(), false, true);
            return 0;
        }
    }

    private static long number(String told) {
        switch (told) {
            case "true":
                return 1;
            case "false":
                return 0;
            case "NONE":
                return KingsTest.NONE;
            case "NOTHING":
                return KingsTest.NOTHING;
            default:
                return Long.parseLong(told);
        }
    }

    private static void allCallsNamed(String readme) {
        for (Method method : KingsTest.class.getDeclaredMethods()) {
            if (Modifier.isPublic(method.getModifiers())) {
                Checks.due("README.md names " + method.getName(), readme.contains("| `" + method.getName() + "("), true);
            }
        }
    }

    private static void allTestsNamed(String readme) throws IOException {
        try (var files = Files.list(Path.of("src/test/java"))) {
            for (Path file : (Iterable<Path>) files::iterator) {
                String name = file.getFileName().toString().replace(".java", "");
                Checks.due("README.md names " + name, readme.contains("`" + name + "`"), true);
            }
        }
    }
}
