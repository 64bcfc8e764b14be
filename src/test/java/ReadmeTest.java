import java.io.IOException;
import java.lang.reflect.Method;
import java.lang.reflect.Modifier;
import java.nio.charset.StandardCharsets;
import java.nio.file.DirectoryStream;
import java.nio.file.Files;
import java.nio.file.Path;
import java.util.HashMap;
import java.util.Map;
import java.util.regex.Matcher;
import java.util.regex.Pattern;

/** Holds README.md to what it says: its calls and their answers, and the names that it must know. */
public final class ReadmeTest {
    private static final Pattern CALL = Pattern.compile(
            "(?:int (\\w+) = )?bed\\.(\\w+)\\(([^)]*)\\);\\s*// (-?[0-9]+)\\b.*");
    private static final Pattern TEXT = Pattern.compile("each byte of\\s+`([^`]*)`[^(]*\\(\\)`[^(]*\\(here ([0-9]+)\\)");
    private static final int EXAMPLE_CALLS = 16;

    private static final Check CHECK = new Check();

    private final BedFrontier bed = new BedFrontier();
    private final Map<String, Integer> names = new HashMap<>();

    public static void main(String[] args) throws IOException, ReflectiveOperationException {
        Path path = Path.of(System.getProperty("readme", "README.md"));
        String page = Files.readString(path, StandardCharsets.UTF_8);
        new ReadmeTest().example(page);
        textExample(page);
        callsOfTheFace(page);
        classesInside(page);
        tests(page, path.toAbsolutePath().getParent().resolve("src/test/java"));
        CHECK.finish();
    }

    private void example(String page) throws ReflectiveOperationException {
        int begin = page.indexOf("```java\n");
        int end = page.indexOf("```", begin + 3);
        String[] lines = begin < 0 || end < 0 ? new String[0] : page.substring(begin, end).split("\n");
        int calls = 0;
        for (String line : lines) {
            Matcher m = CALL.matcher(line);
            if (m.matches()) {
                call(m, line);
                calls++;
            } else if (line.contains("bed.")) {
                CHECK.fail("no answer stands behind '" + line + "'");
            }
        }
        CHECK.due("calls of the example", calls, EXAMPLE_CALLS);
    }

    private void call(Matcher m, String line) throws ReflectiveOperationException {
        String[] told = m.group(3).isEmpty() ? new String[0] : m.group(3).split(", ");
        Object[] arguments = new Object[told.length];
        for (int i = 0; i < told.length; i++) {
            arguments[i] = valueOf(told[i]);
        }
        long got = ((Number) named(m.group(2)).invoke(bed, arguments)).longValue();
        CHECK.due("'" + line + "'", got, Long.parseLong(m.group(4)));
        if (m.group(1) != null) {
            names.put(m.group(1), (int) got);
        }
    }

    private int valueOf(String told) {
        if (told.equals("BedFrontier.NONE")) {
            return BedFrontier.NONE;
        }
        if (told.startsWith("1 << ")) {
            return 1 << Integer.parseInt(told.substring(5));
        }
        return names.containsKey(told) ? names.get(told) : Integer.parseInt(told);
    }

    private static Method named(String name) {
        for (Method m : BedFrontier.class.getDeclaredMethods()) {
            if (Modifier.isPublic(m.getModifiers()) && m.getName().equals(name)) {
                return m;
            }
        }
        throw new IllegalStateException("README.md calls " + name);
    }

    private static void textExample(String page) {
        Matcher m = TEXT.matcher(page);
        if (!m.find()) {
            CHECK.fail("no text of a house with its items");
            return;
        }
        BedFrontier x = new BedFrontier();
        Check.typeAll(x, m.group(1));
        CHECK.due("items of '" + m.group(1) + "'", x.read(), Integer.parseInt(m.group(2)));
    }

    private static void callsOfTheFace(String page) {
        int begin = page.indexOf("| what for |");
        int end = page.indexOf("\n\n", begin);
        String table = begin < 0 || end < 0 ? "" : page.substring(begin, end);
        for (Method m : BedFrontier.class.getDeclaredMethods()) {
            if (Modifier.isPublic(m.getModifiers())) {
                has("the table of calls", table, "`" + m.getName() + "`");
            }
        }
    }

    private static void classesInside(String page) {
        String part = page.substring(Math.max(page.indexOf("## How it is made"), 0));
        for (Class<?> c : BedFrontier.class.getDeclaredClasses()) {
            has("how it is made", part, "`" + c.getSimpleName() + "`");
        }
    }

    private static void tests(String page, Path where) throws IOException {
        try (DirectoryStream<Path> files = Files.newDirectoryStream(where, "*Test.java")) {
            for (Path file : files) {
                String name = file.getFileName().toString();
                has("the tests", page, "- `" + name.substring(0, name.length() - 5) + "`");
            }
        }
        Matcher m = Pattern.compile("- `(\\w+Test)`").matcher(page);
        while (m.find()) {
            CHECK.due(m.group(1) + " is there", Files.exists(where.resolve(m.group(1) + ".java")) ? 1 : 0, 1);
        }
    }

    private static void has(String what, String text, String words) {
        CHECK.due(what + " of README.md names " + words, text.contains(words) ? 1 : 0, 1);
    }
}
