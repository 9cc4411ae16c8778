import java.lang.reflect.Method;
import java.lang.reflect.Modifier;
import java.nio.file.DirectoryStream;
import java.nio.file.Files;
import java.nio.file.Path;
import java.util.Set;
import java.util.TreeSet;
import java.util.regex.Matcher;
import java.util.regex.Pattern;

/** README.md: its example answers as it stands there, and it names each call and each test, and none else. */
public final class ReadmeTest {
    private static final Path TESTS = Path.of("src/test/java");
    private static final Pattern CALL = Pattern.compile("x\\.(\\w+)\\((.*)\\); *// (-?\\d+|true|false): .+");
    private static final Pattern CODE = Pattern.compile("`(\\w+)`");

    private static Method called(String name) {
        for (Method m : BranchSums.class.getDeclaredMethods()) {
            if (Modifier.isPublic(m.getModifiers()) && m.getName().equals(name)) return m;
        }
        throw new IllegalStateException("there is no call " + name);
    }

    private static Object valueOf(String word, Class<?> type) {
        return type == boolean.class ? (Object) Boolean.valueOf(word) : (Object) Integer.decode(word);
    }

    private static String answer(BranchSums x, String name, String args) throws Exception {
        Method m = called(name);
        String[] words = args.isEmpty() ? new String[0] : args.split(", ");
        Check.due("README: numbers of " + name, words.length, m.getParameterCount());
        Object[] values = new Object[words.length];
        for (int i = 0; i < words.length; i++) values[i] = valueOf(words[i], m.getParameterTypes()[i]);
        return m.invoke(x, values).toString();
    }

    private static void theExample(String page) throws Exception {
        String[] lines = page.split("```java\n")[1].split("```")[0].split("\n");
        Check.due("README: an object is made", lines[0].equals("BranchSums x = new BranchSums();"), true);
        BranchSums x = new BranchSums();
        for (int i = 1; i < lines.length; i++) {
            Matcher m = CALL.matcher(lines[i]);
            boolean isCall = m.matches();
            Check.due("README: a call with its answer: " + lines[i], isCall, true);
            if (!isCall) continue;
            String got = answer(x, m.group(1), m.group(2));
            Check.due("README: " + lines[i] + " (answered " + got + ")", got.equals(m.group(3)), true);
        }
    }

    private static Set<String> named(String part) {
        Set<String> found = new TreeSet<>();
        for (Matcher m = CODE.matcher(part); m.find();) found.add(m.group(1));
        return found;
    }

    private static void theCalls(String page) {
        Set<String> face = new TreeSet<>();
        for (Method m : BranchSums.class.getDeclaredMethods()) {
            if (Modifier.isPublic(m.getModifiers())) face.add(m.getName());
        }
        Set<String> found = named(page.split("\\| for \\| calls \\|")[1].split("\n## ")[0]);
        Check.due("README: the calls " + found + " are " + face, found.equals(face), true);
    }

    private static void theTests(String page) throws Exception {
        Set<String> there = new TreeSet<>();
        try (DirectoryStream<Path> files = Files.newDirectoryStream(TESTS, "*Test.java")) {
            for (Path file : files) there.add(file.getFileName().toString().replace(".java", ""));
        }
        Set<String> found = named(page.split("\n## Tests\n")[1]);
        found.removeIf(name -> !name.endsWith("Test"));
        Check.due("README: the tests " + found + " are " + there, found.equals(there), true);
        Check.due("README: what runs them can be run", page.contains("\n    .ci/run\n") && Files.isExecutable(Path.of(".ci/run")), true);
    }

    public static void main(String[] args) throws Exception {
        String page = Files.readString(Path.of("README.md"));
        theExample(page);
        theCalls(page);
        theTests(page);
        Check.close("ReadmeTest");
    }
}
