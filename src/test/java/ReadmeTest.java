import java.nio.file.Files;
import java.nio.file.Path;
import java.util.regex.Matcher;
import java.util.regex.Pattern;

/** README.md says how to use the class: each call that it shows is answered as it says, and each call is named. */
public final class ReadmeTest {
    private static final Due DUE = new Due("ReadmeTest");
    private static final Pattern CALL = Pattern.compile("^book\\.(\\w+)\\(([^)]*)\\);\\s*// (-?\\d+|[A-Z]+)\\b");

    public static void main(String[] args) throws Exception {
        String readme = Files.readString(Path.of("README.md"));
        callsAreAnsweredAsShown(readme);
        eachCallAndConstantIsNamed(readme);
        eachTestIsNamed(readme);
        DUE.end();
    }

    private static void callsAreAnsweredAsShown(String readme) throws Exception {
        StationBook book = null;
        int shown = 0;
        for (String line : readme.split("\n")) {
            if (line.startsWith("StationBook book = new StationBook();")) {
                book = new StationBook();
            }
            Matcher call = CALL.matcher(line);
            if (book != null && call.find()) {
                shown++;
                DUE.is("README.md: " + line, answer(book, call.group(1), call.group(2)), due(call.group(3)));
            }
        }
        DUE.is("README.md shows calls", shown >= 15 ? 1 : 0, 1);
    }

    private static long due(String told) throws Exception {
        boolean isName = Character.isLetter(told.charAt(0));
        return isName ? StationBook.class.getField(told).getInt(null) : Long.parseLong(told);
    }

    private static long answer(StationBook book, String name, String arguments) throws Exception {
        String[] texts = arguments.isBlank() ? new String[0] : arguments.split(",\\s*");
        Class<?>[] types = new Class<?>[texts.length];
        Object[] values = new Object[texts.length];
        for (int i = 0; i < texts.length; i++) {
            boolean isFlag = texts[i].equals("true") || texts[i].equals("false");
            types[i] = isFlag ? boolean.class : int.class;
            if (isFlag) {
                values[i] = Boolean.valueOf(texts[i]);
            } else {
                values[i] = texts[i].startsWith("StationBook.") ? (int) due(texts[i].substring(12)) : Integer.valueOf(texts[i]);
            }
        }
        return ((Number) StationBook.class.getMethod(name, types).invoke(book, values)).longValue();
    }

    private static void eachCallAndConstantIsNamed(String readme) {
        for (var method : StationBook.class.getDeclaredMethods()) {
            if (java.lang.reflect.Modifier.isPublic(method.getModifiers())) {
                DUE.is("README.md names " + method.getName(), readme.contains("`" + method.getName() + "(") ? 1 : 0, 1);
            }
        }
        for (var field : StationBook.class.getFields()) {
            DUE.is("README.md names " + field.getName(), readme.contains("`" + field.getName() + "`") ? 1 : 0, 1);
        }
    }

    private static void eachTestIsNamed(String readme) throws Exception {
        try (var files = Files.newDirectoryStream(Path.of("src/test/java"), "*Test.java")) {
            for (Path file : files) {
                String name = file.getFileName().toString().replace(".java", "");
                boolean isOfAPromise = name.startsWith("Promise");
                DUE.is("README.md names " + name, isOfAPromise || readme.contains("`" + name + "`") ? 1 : 0, 1);
            }
        }
    }
}
