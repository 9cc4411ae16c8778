import java.lang.reflect.Field;
import java.lang.reflect.InvocationTargetException;
import java.lang.reflect.Method;
import java.lang.reflect.Modifier;
import java.nio.file.Files;
import java.nio.file.Path;
import java.util.ArrayList;
import java.util.List;
import java.util.Set;
import java.util.TreeSet;
import java.util.regex.Matcher;
import java.util.regex.Pattern;

/** The rules of LANGUAGE.md that a machine can look at: words, the face, no throws. */
public final class LanguageTest {
    private static final Path SOURCE = Path.of("src/main/java/BranchSums.java");
    private static final Path DOC = Path.of("../shared/DOC.md");
    private static final int[] WILD = {
        Integer.MIN_VALUE, Integer.MIN_VALUE + 1, -100000, -10000, -9999, -3, -2, -1, 0, 1, 2, 3, 4, 5, 6, 11, 12, 13,
        22, 23, 24, 25, 31, 32, 50, 51, 63, 64, 65, 100, 101, 200, 201, 400, 401, 9999, 10000, 999999, 1000000,
        Integer.MAX_VALUE - 1, Integer.MAX_VALUE
    };
    private static long seed = 7;

    private static int pick(int n) {
        seed = seed * 6364136223846793005L + 1442695040888963407L;
        return (int) Long.remainderUnsigned(seed >>> 33, n);
    }

    private static String code() throws Exception {
        String s = Files.readString(SOURCE);
        s = s.replaceAll("(?s)/\\*.*?\\*/", " ").replaceAll("//[^\n]*", " ");
        return s.replaceAll("\"[^\"\n]*\"", "\"\"").replaceAll("'[^'\n]+'", "' '");
    }

    private static void words() throws Exception {
        String code = code();
        String[] banned = {
            "\\bthrows?\\b", "\\btry\\b", "\\bcatch\\b", "\\bfinally\\b", "\\bsynchronized\\b", "\\bassert\\b", "->", "::",
            "Exact\\b", "\\bhashCode\\b", "\\btoString\\b", "\\bThread\\b", "\\bRandom\\b", "\\bObject\\b", "\\bpackage\\b",
            "\\bdouble\\b", "\\bfloat\\b", "\\bprotected\\b", "System\\.(?!arraycopy)", "Arrays\\.(?!fill|copyOf)",
            "\\bimport (?!java\\.util\\.(Arrays|ArrayList|List|Iterator);)", "@"
        };
        for (String word : banned) {
            Matcher found = Pattern.compile(word).matcher(code);
            Check.due("rule: no " + word, found.find(), false);
        }
        Check.due("rule 2: static classes", count(code, "\\bclass\\b") - 1, count(code, "private static final class"));
        for (char c : Files.readString(SOURCE).toCharArray()) {
            if (c > 126) Check.due("rule 4: sign " + (int) c, 1, 0);
        }
    }

    private static int count(String s, String pattern) {
        int n = 0;
        for (Matcher m = Pattern.compile(pattern).matcher(s); m.find();) n++;
        return n;
    }

    private static String face(Method m) {
        StringBuilder s = new StringBuilder(m.getReturnType().getName()).append(" ").append(m.getName()).append("(");
        for (Class<?> c : m.getParameterTypes()) s.append(c.getName()).append(",");
        return s.append(")").toString();
    }

    private static void face() throws Exception {
        Set<String> want = new TreeSet<>();
        Set<String> names = new TreeSet<>();
        Matcher lines = Pattern.compile("(?m)^    public (int|long|boolean) (\\w+)\\(([^)]*)\\);").matcher(Files.readString(DOC));
        while (lines.find()) {
            StringBuilder s = new StringBuilder(lines.group(1) + " " + lines.group(2) + "(");
            for (String p : lines.group(3).split(",")) if (!p.isBlank()) s.append(p.trim().split(" ")[0]).append(",");
            want.add(s.append(")").toString());
            names.add(lines.group(2));
        }
        Check.due("face: members in the document", want.size(), 51);
        Set<String> got = new TreeSet<>();
        for (Method m : BranchSums.class.getDeclaredMethods()) {
            if (Modifier.isPublic(m.getModifiers())) got.add(face(m));
            else Check.due("rule 1: private " + m.getName(), Modifier.isPrivate(m.getModifiers()) && !names.contains(m.getName()), true);
        }
        Check.due("face: " + got + " are " + want, got.equals(want), true);
        for (Field f : BranchSums.class.getDeclaredFields()) {
            Check.due("rule 1: field " + f.getName(), Modifier.isPrivate(f.getModifiers()), !f.getName().equals("NONE"));
            Check.due("rule 5: field " + f.getName(), !Modifier.isStatic(f.getModifiers()) || Modifier.isFinal(f.getModifiers()), true);
        }
        for (Class<?> c : BranchSums.class.getDeclaredClasses()) {
            for (Method m : c.getDeclaredMethods()) Check.due("rule 1: " + m, names.contains(m.getName()), false);
        }
        Check.due("face: constructors", BranchSums.class.getConstructors().length, 1);
        Check.due("rule 1: public final", BranchSums.class.getModifiers(), Modifier.PUBLIC | Modifier.FINAL);
    }

    private static List<Method> methods() {
        List<Method> found = new ArrayList<>();
        for (Method m : BranchSums.class.getDeclaredMethods()) if (Modifier.isPublic(m.getModifiers())) found.add(m);
        found.sort((a, b) -> face(a).compareTo(face(b)));
        return found;
    }

    /** Any arguments in any state: no call throws. */
    private static void neverThrows() throws Exception {
        List<Method> methods = methods();
        for (int run = 0; run < 900; run++) {
            BranchSums x = new BranchSums();
            if (run % 3 == 1) Check.read(x, "0(1(2(3)4)5(6 7(8))23);0:5x9,63x9999;1:0x1,5x8;3:7x5;6:9x9,10x3,5x1;23:33x1");
            if (run % 3 == 2) Check.read(x, "0(1(2(3(4(5(6(7(8(9(10(11(12))))))))))));12:5x1;3:5x2,63x9998");
            for (int i = 0; i < 490; i++) wildCall(x, methods.get(pick(methods.size())));
            Check.due("rule 7: the head stays", x.look(0) & 1, 1);
        }
    }

    private static void wildCall(BranchSums x, Method m) throws Exception {
        Object[] args = new Object[m.getParameterCount()];
        for (int i = 0; i < args.length; i++) {
            boolean small = pick(3) > 0;
            args[i] = m.getParameterTypes()[i] == boolean.class ? (Object) (pick(2) == 0) : (Object) (small ? pick(16) : WILD[pick(WILD.length)]);
        }
        try {
            m.invoke(x, args);
        } catch (InvocationTargetException e) {
            Check.due("rule 7: " + m.getName() + java.util.Arrays.toString(args) + " throws " + e.getCause(), 1, 0);
        }
    }

    public static void main(String[] args) throws Exception {
        words();
        face();
        neverThrows();
        Check.close("LanguageTest");
    }
}
