import java.lang.reflect.Constructor;
import java.lang.reflect.Field;
import java.lang.reflect.Method;
import java.lang.reflect.Modifier;
import java.nio.file.Files;
import java.nio.file.Path;
import java.util.Arrays;
import java.util.HashMap;
import java.util.HashSet;
import java.util.Map;
import java.util.Set;
import java.util.TreeSet;
import java.util.regex.Matcher;
import java.util.regex.Pattern;
import java.util.stream.Collectors;

/** The public face of the document, and those rules of LANGUAGE.md that can be seen from outside or by words. */
public final class FaceTest {
    private static final Due DUE = new Due("FaceTest");
    private static final Set<String> FACE = new TreeSet<>(Set.of(
        "int pass(int)", "int send(int,int)", "int route(int,int)", "int hint(int)",
        "int answered(int,int,boolean,boolean,boolean)", "int asks(int,int,int)", "int told(int,int,int,int)",
        "int better(int,int,int)", "int claim(int)", "int give()", "int entry(int,int)", "int held(int,int)",
        "int router(int,int)", "int hop(int)", "int out(int,int)", "int about(int)", "int count(int)", "long digest()"));
    private static final String[] FORBIDDEN = {"package", "import", "throw", "throws", "try", "catch", "finally",
        "synchronized", "assert", "protected", "volatile", "native", "System", "Object", "Exact"};

    public static void main(String[] args) throws Exception {
        theClass();
        theMembers();
        theClassesInside();
        theWords();
        theMethods();
        DUE.end();
    }

    private static void yes(String what, boolean is) {
        DUE.is(what, is ? 1 : 0, 1);
    }

    private static void theClass() {
        int m = StationBook.class.getModifiers();
        yes("public and final", Modifier.isPublic(m) && Modifier.isFinal(m));
        yes("no class above it", StationBook.class.getSuperclass() == Object.class);
        yes("no interface", StationBook.class.getInterfaces().length == 0);
        Constructor<?>[] made = StationBook.class.getDeclaredConstructors();
        yes("one constructor", made.length == 1 && Modifier.isPublic(made[0].getModifiers()) && made[0].getParameterCount() == 0);
    }

    private static String told(Method m) {
        String parameters = Arrays.stream(m.getParameterTypes()).map(Class::getName).collect(Collectors.joining(","));
        return m.getReturnType().getName() + " " + m.getName() + "(" + parameters + ")";
    }

    private static void theMembers() throws Exception {
        Set<String> seen = new TreeSet<>();
        for (Method m : StationBook.class.getDeclaredMethods()) {
            if (!Modifier.isPrivate(m.getModifiers())) {
                yes(m.getName() + " is public and no static one", m.getModifiers() == Modifier.PUBLIC);
                seen.add(told(m));
            } else {
                yes(m.getName() + " bears no public name", FACE.stream().noneMatch(f -> f.contains(" " + m.getName() + "(")));
            }
        }
        yes("the methods are those of the document: " + seen, seen.equals(FACE));
        Set<String> constants = new TreeSet<>();
        for (Field f : StationBook.class.getDeclaredFields()) {
            int m = f.getModifiers();
            yes(f.getName() + " is final if static", !Modifier.isStatic(m) || Modifier.isFinal(m));
            if (!Modifier.isPrivate(m)) {
                yes(f.getName() + " is a constant", m == (Modifier.PUBLIC | Modifier.STATIC | Modifier.FINAL) && f.getType() == int.class);
                constants.add(f.getName() + "=" + f.getInt(null));
            }
        }
        yes("the constants are those of the document: " + constants,
            constants.equals(new TreeSet<>(Set.of("NONE=-1", "UNKNOWN=-101", "OUTSIDE=-102", "STATE=-103", "FULL=-104"))));
    }

    private static void theClassesInside() {
        Class<?>[] inside = StationBook.class.getDeclaredClasses();
        yes("at most twelve classes", inside.length < 12);
        for (Class<?> c : inside) {
            int m = c.getModifiers();
            yes(c.getName() + " is static, and private or package-visible",
                Modifier.isStatic(m) && !Modifier.isPublic(m) && !Modifier.isProtected(m));
            for (Field f : c.getDeclaredFields()) {
                yes(c.getName() + "." + f.getName() + " is final if static",
                    !Modifier.isStatic(f.getModifiers()) || Modifier.isFinal(f.getModifiers()));
            }
            for (Method f : c.getDeclaredMethods()) {
                yes(c.getName() + "." + f.getName() + " has at most seven parameters", f.getParameterCount() <= 7);
                yes(c.getName() + "." + f.getName() + " bears no public name",
                    FACE.stream().noneMatch(face -> face.contains(" " + f.getName() + "(")));
            }
        }
    }

    private static String source() throws Exception {
        return Files.readString(Path.of("src/main/java/StationBook.java"));
    }

    private static String withoutComments(String source) {
        return source.replaceAll("(?s)/\\*.*?\\*/", " ").replaceAll("//[^\n]*", " ");
    }

    private static void theWords() throws Exception {
        String source = source();
        yes("plain signs alone", source.chars().allMatch(c -> c == '\n' || c >= 32 && c < 127));
        String code = withoutComments(source);
        for (String word : FORBIDDEN) {
            yes("no " + word, !Pattern.compile("\\b" + word + "\\b").matcher(code).find());
        }
        yes("no lambda, no method reference", !code.contains("->") && !code.contains("::"));
    }

    /** Rule 11: short methods, calls at most eight deep, none of which calls itself. */
    private static void theMethods() throws Exception {
        Map<String, Set<String>> calls = new HashMap<>();
        String code = withoutComments(source());
        Matcher head = Pattern.compile("\\n +(?:public|private) (?:static )?(?:\\w+ )?(\\w+)\\([^)]*\\) \\{\\n").matcher(code);
        while (head.find()) {
            String body = body(code, head.end());
            yes(head.group(1) + " is short", body.lines().count() <= 60);
            Set<String> called = calls.computeIfAbsent(head.group(1), name -> new HashSet<>());
            Matcher call = Pattern.compile("\\b(\\w+)\\(").matcher(body);
            while (call.find()) {
                called.add(call.group(1));
            }
        }
        yes("the methods were found", calls.keySet().containsAll(Set.of("pass", "digest", "StationBook", "Entries", "goneAt")));
        for (String name : calls.keySet()) {
            yes(name + " goes at most eight deep", depth(name, calls, 0) <= 8);
        }
    }

    private static String body(String code, int start) {
        int open = 1;
        int end = start;
        while (open > 0 && end < code.length()) {
            open += code.charAt(end) == '{' ? 1 : code.charAt(end) == '}' ? -1 : 0;
            end++;
        }
        return code.substring(start, end);
    }

    /** Methods of one name in several classes are taken as one, so that this may be too much, but never too little. */
    private static int depth(String name, Map<String, Set<String>> calls, int above) {
        int deepest = 0;
        for (String called : calls.getOrDefault(name, Set.of())) {
            if (calls.containsKey(called) && above < 20) {
                deepest = Math.max(deepest, depth(called, calls, above + 1));
            }
        }
        return deepest + 1;
    }
}
