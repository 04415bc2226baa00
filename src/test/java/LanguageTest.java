import java.io.IOException;
import java.lang.reflect.Field;
import java.lang.reflect.Method;
import java.lang.reflect.Modifier;
import java.nio.file.Files;
import java.nio.file.Path;
import java.util.Arrays;
import java.util.Map;
import java.util.Set;
import java.util.TreeMap;
import java.util.TreeSet;
import java.util.regex.Matcher;
import java.util.regex.Pattern;

/** The document's whole face and nothing else, and what of ../shared/LANGUAGE.md can be looked up. The argument: the source file. */
public final class LanguageTest {
    private static final Map<String, String> FACE = new TreeMap<>();

    static {
        String ints = "write(long,int) erase() fault() day() thing(int,int) call(int,int) sort(int,int,int) way(int,int) may(int)"
            + " does(int,int,int) chance(int,int,int) end(int,int,int) best(int,int) sure(int,int,int,int) both(int,int)"
            + " next(int,int,int,int) stands(int,int) idle() visit(int,int,int) saved(int) most(int) box(int)"
            + " run(int,int,int,int,int) count(int)";
        String longs = "mean(int,int,int,int) all(int,int,int,int) know(int,int,int,int) value(int,int,int,int,int)";
        for (String method : ints.split(" ")) FACE.put(method, "int");
        for (String method : longs.split(" ")) FACE.put(method, "long");
    }

    public static void main(String[] args) throws IOException {
        methods();
        fields();
        classes();
        words(Files.readString(Path.of(args[0])));
        Check.end();
    }

    private static void methods() {
        Set<String> missing = new TreeSet<>(FACE.keySet());
        for (Method m : CarryUp.class.getDeclaredMethods()) {
            String face = m.getName() + "(" + String.join(",", Arrays.stream(m.getParameterTypes()).map(Class::getName).toList()) + ")";
            boolean isPublic = m.getModifiers() == Modifier.PUBLIC;
            boolean isPrivate = Modifier.isPrivate(m.getModifiers());
            yes("in the face or private: " + face, isPublic && m.getReturnType().getName().equals(FACE.get(face)) || isPrivate);
            missing.remove(face);
        }
        yes("missing: " + missing, missing.isEmpty());
        yes("one constructor", CarryUp.class.getDeclaredConstructors().length == 1);
    }

    private static void fields() {
        Set<String> constants = new TreeSet<>();
        for (Field f : CarryUp.class.getDeclaredFields()) {
            if (Modifier.isPublic(f.getModifiers())) constants.add(f.getType() + " " + f.getName());
            else yes("private: " + f.getName(), Modifier.isPrivate(f.getModifiers()));
        }
        Set<String> due = Set.of("int NONE", "int UNKNOWN", "int OUTSIDE", "int NOT", "int FULL", "long LEAST");
        yes("constants " + constants, constants.equals(due));
    }

    private static void classes() {
        Class<?>[] classes = CarryUp.class.getDeclaredClasses();
        yes("twelve classes at most", classes.length < 12);
        for (Class<?> c : classes) {
            yes("static, not public: " + c, Modifier.isStatic(c.getModifiers()) && !Modifier.isPublic(c.getModifiers()));
            int fields = 0;
            for (Field f : c.getDeclaredFields()) {
                if (Modifier.isStatic(f.getModifiers())) yes("static and final: " + f, Modifier.isFinal(f.getModifiers()));
                else fields++;
            }
            yes("twenty fields at most: " + c, fields <= 20);
            for (Method m : c.getDeclaredMethods()) {
                yes("seven parameters at most: " + m, m.getParameterCount() <= 7);
                boolean bears = FACE.keySet().stream().anyMatch(face -> face.startsWith(m.getName() + "("));
                yes("no private method with a public one's name: " + m, !bears);
            }
        }
    }

    private static void words(String source) {
        String code = source.replaceAll("(?s)/\\*.*?\\*/", "").replaceAll("//[^\n]*", "");
        Matcher m = Pattern.compile("\\b(import|package|throw|throws|try|catch|synchronized|assert|protected|native|volatile|yield|var)\\b|->|::|@|\\.class\\b").matcher(code);
        yes("no word that the language leaves out", !m.find());
        Matcher library = Pattern.compile("\\b(System|Arrays|Integer|Long|Math|Object|Thread|Character|List|ArrayList)\\.(\\w+)").matcher(code);
        while (library.find()) yes("library: " + library.group(), Set.of("abs", "max", "min", "bitCount").contains(library.group(2)));
    }

    private static void yes(String what, boolean holds) {
        Check.due(what, holds ? 1 : 0, 1);
    }
}
