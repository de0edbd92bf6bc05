import java.io.IOException;
import java.lang.reflect.Method;
import java.lang.reflect.Modifier;
import java.nio.file.DirectoryStream;
import java.nio.file.Files;
import java.nio.file.Path;
import java.util.List;
import java.util.regex.Matcher;
import java.util.regex.Pattern;

/** What README.md shows is so: its run of calls answers as it is printed, and it names all calls, constants, tests. */
public final class ReadmeTest {
    private static final Path PAGE = Path.of("README.md");
    private static final String RUN_BEGINS = "```java";
    private static final String RUN_ENDS = "```";
    private static final String MADE = "HearsayMarch x = new HearsayMarch();";
    private static final Pattern CALL = Pattern.compile("x\\.(\\w+)\\((.*)\\); +// (-?\\d+)(: .+)?");

    public static void main(String[] args) throws IOException, ReflectiveOperationException {
        List<String> page = Files.readAllLines(PAGE);
        runAnswersAsPrinted(page);
        String all = String.join("\n", page);
        callsAreNamed(all);
        constantsAreNamed(all);
        testsAreNamed(all);
        Check.end();
    }

    private static void runAnswersAsPrinted(List<String> page) throws ReflectiveOperationException {
        int begin = page.indexOf(RUN_BEGINS) + 1;
        int end = begin + page.subList(begin, page.size()).indexOf(RUN_ENDS);
        Check.due("the run is there", begin > 0 && end > begin + 1 ? 1 : 0, 1);
        Check.due("the object is made: " + page.get(begin), page.get(begin).equals(MADE) ? 1 : 0, 1);
        HearsayMarch x = new HearsayMarch();
        for (String line : page.subList(begin + 1, end)) {
            Matcher call = CALL.matcher(line);
            boolean isCall = call.matches();
            Check.due("a call and its answer: " + line, isCall ? 1 : 0, 1);
            if (isCall) {
                Check.due(line, answer(x, call.group(1), call.group(2)), Long.parseLong(call.group(3)));
            }
        }
    }

    private static long answer(HearsayMarch x, String name, String list) throws ReflectiveOperationException {
        String[] words = list.isEmpty() ? new String[0] : list.split(", ");
        Method method = methodOf(name);
        Class<?>[] types = method.getParameterTypes();
        Check.due("arguments of " + name + "(" + list + ")", words.length, types.length);
        Object[] values = new Object[types.length];
        for (int i = 0; i < types.length; i++) {
            values[i] = valueOf(types[i], words[i]);
        }
        return ((Number) method.invoke(x, values)).longValue();
    }

    private static Method methodOf(String name) throws NoSuchMethodException {
        for (Method m : HearsayMarch.class.getDeclaredMethods()) {
            if (Modifier.isPublic(m.getModifiers()) && m.getName().equals(name)) {
                return m;
            }
        }
        throw new NoSuchMethodException(name);
    }

    /** A word as Java reads it there: what is larger than an int needs its L. */
    private static Object valueOf(Class<?> type, String word) {
        if (type == boolean.class) {
            Check.due("true or false: " + word, word.equals("true") || word.equals("false") ? 1 : 0, 1);
            return Boolean.valueOf(word);
        }
        if (type == long.class && word.endsWith("L")) {
            return Long.decode(word.substring(0, word.length() - 1));
        }
        int value = Integer.decode(word);
        return type == long.class ? (Object) (long) value : (Object) value;
    }

    private static void callsAreNamed(String page) {
        for (Method m : HearsayMarch.class.getDeclaredMethods()) {
            if (Modifier.isPublic(m.getModifiers())) {
                dueNamed(page, "`" + m.getName() + "`");
            }
        }
    }

    private static void constantsAreNamed(String page) {
        dueNamed(page, "| `UNKNOWN` | " + HearsayMarch.UNKNOWN + " |");
        dueNamed(page, "| `BAD` | " + HearsayMarch.BAD + " |");
        dueNamed(page, "| `LATE` | " + HearsayMarch.LATE + " |");
        dueNamed(page, "| `FULL` | " + HearsayMarch.FULL + " |");
        dueNamed(page, "`NONE`, " + HearsayMarch.NONE + ",");
    }

    private static void testsAreNamed(String page) throws IOException {
        int tests = 0;
        try (DirectoryStream<Path> files = Files.newDirectoryStream(Path.of("src/test/java"), "*Test.java")) {
            for (Path file : files) {
                String name = file.getFileName().toString();
                dueNamed(page, "`" + name.substring(0, name.length() - ".java".length()) + "`");
                tests++;
            }
        }
        Check.due("tests are there", tests > 0 ? 1 : 0, 1);
    }

    private static void dueNamed(String page, String name) {
        Check.due("README.md names " + name, page.contains(name) ? 1 : 0, 1);
    }
}
