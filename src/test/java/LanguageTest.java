import java.io.IOException;
import java.lang.reflect.Field;
import java.lang.reflect.Method;
import java.lang.reflect.Modifier;
import java.nio.file.Files;
import java.util.Arrays;
import java.util.Map;
import java.util.Set;
import java.util.TreeMap;
import java.util.TreeSet;
import java.util.regex.Matcher;
import java.util.regex.Pattern;

/** The document's whole face and nothing else, and what of ../shared/LANGUAGE.md can be looked up. The argument: the source file. */
public final class LanguageTest {
    private static final Map<String, String> FACE = new TreeMap<>();

    static {
        String ints = "write(long,int) erase() fault() day() thing(int,int) call(int,int) sort(int,int,int) way(int,int) may(int)"
            + " does(int,int,int) chance(int,int,int) end(int,int,int) best(int,int) sure(int,int,int,int) both(int,int)"
            + " next(int,int,int,int) stands(int,int) idle() visit(int,int,int) saved(int) most(int) box(int)"
            + " run(int,int,int,int,int) count(int)";
        String longs = "mean(int,int,int,int) all(int,int,int,int) know(int,int,int,int) value(int,int,int,int,int)";
        for (String method : ints.split(" ")) FACE.put(method, "int");
        for (String method : longs.split(" ")) FACE.put(method, "long");
    }

    public static void main(String[] args) throws IOException {
        methods();
        fields();
        classes();
        String code = withoutComments(Files.readString(Source.file(args)));
        words(code);
        lengths(code);
        Check.end();
    }

    private static void methods() {
        Set<String> missing = new TreeSet<>(FACE.keySet());
        for (Method m : CarryUp.class.getDeclaredMethods()) {
            String face = m.getName() + "(" + String.join(",", Arrays.stream(m.getParameterTypes()).map(Class::getName).toList()) + ")";
            boolean isPublic = m.getModifiers() == Modifier.PUBLIC;
            boolean isPrivate = Modifier.isPrivate(m.getModifiers()) && !bearsPublicName(m);
            yes("in the face or private: " + face, isPublic && m.getReturnType().getName().equals(FACE.get(face)) || isPrivate);
            missing.remove(face);
        }
        yes("missing: " + missing, missing.isEmpty());
        yes("one constructor", CarryUp.class.getDeclaredConstructors().length == 1);
    }

    private static boolean bearsPublicName(Method m) {
        return FACE.keySet().stream().anyMatch(face -> face.startsWith(m.getName() + "("));
    }

    private static void fields() {
        Set<String> constants = new TreeSet<>();
        for (Field f : CarryUp.class.getDeclaredFields()) {
            if (Modifier.isPublic(f.getModifiers())) constants.add(f.getType() + " " + f.getName());
            else yes("private: " + f.getName(), Modifier.isPrivate(f.getModifiers()));
        }
        Set<String> due = Set.of("int NONE", "int UNKNOWN", "int OUTSIDE", "int NOT", "int FULL", "long LEAST");
        yes("constants " + constants, constants.equals(due));
    }

    private static void classes() {
        Class<?>[] classes = CarryUp.class.getDeclaredClasses();
        yes("twelve classes at most", classes.length < 12);
        for (Class<?> c : classes) {
            yes("static, not public: " + c, Modifier.isStatic(c.getModifiers()) && !Modifier.isPublic(c.getModifiers()));
            int fields = 0;
            for (Field f : c.getDeclaredFields()) {
                if (Modifier.isStatic(f.getModifiers())) yes("static and final: " + f, Modifier.isFinal(f.getModifiers()));
                else fields++;
            }
            yes("twenty fields at most: " + c, fields <= 20);
            for (Method m : c.getDeclaredMethods()) {
                yes("seven parameters at most: " + m, m.getParameterCount() <= 7);
                yes("no private method with a public one's name: " + m, !bearsPublicName(m));
            }
        }
    }

    private static String withoutComments(String source) {
        return source.replaceAll("(?s)/\\*.*?\\*/", "").replaceAll("//[^\n]*", "");
    }

    /** No method is longer than sixty lines: from its head to the brace that stands under its beginning. */
    private static void lengths(String code) {
        String[] lines = code.split("\n", -1);
        int methods = 0;
        for (int i = 0; i < lines.length; i++) {
            if (!lines[i].matches(" {4}( {4})?[\\w\\[\\]]+ .*\\) \\{") || lines[i].contains(" class ")) continue;
            String end = lines[i].replaceAll("\\S.*", "") + "}";
            int k = i;
            while (k < lines.length && !lines[k].equals(end)) k++;
            yes("sixty lines at most: " + lines[i].trim(), k - i < 60);
            methods++;
        }
        yes("all methods are looked at, some hundred: " + methods, methods > 100);
    }

    private static void words(String code) {
        Matcher m = Pattern.compile("\\b(import|package|throw|throws|try|catch|synchronized|assert|protected|native|volatile|yield|var)\\b|->|::|@|\\.class\\b").matcher(code);
        yes("no word that the language leaves out", !m.find());
        Matcher library = Pattern.compile("\\b(System|Arrays|Integer|Long|Math|Object|Thread|Character|List|ArrayList)\\.(\\w+)").matcher(code);
        while (library.find()) yes("library: " + library.group(), Set.of("abs", "max", "min", "bitCount").contains(library.group(2)));
    }

    private static void yes(String what, boolean holds) {
        Check.due(what, holds ? 1 : 0, 1);
    }
}
