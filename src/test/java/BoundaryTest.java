import java.io.IOException;
import java.lang.reflect.InvocationTargetException;
import java.lang.reflect.Method;
import java.nio.charset.StandardCharsets;
import java.nio.file.Files;
import java.nio.file.Path;
import java.util.Arrays;
import java.util.Comparator;
import java.util.regex.Matcher;
import java.util.regex.Pattern;

/**
 * Runs the tests under bounds, each of which holds the class to one sentence, and looks whether
 * their sentences stand in the document and leave none out that names a boundary case.
 */
public final class BoundaryTest {
    /** Words by which a sentence names a boundary case; every figure is one, too. */
    private static final Pattern MARKS = Pattern.compile("(?<!`)([0-9]+|\\b(BAD|NO|FULL|NONE|none|empty|most"
            + "|least|first|last|never|always|nothing|Nothing|nowhere|neither|early|again|ahead|behind|cut"
            + "|left over|refused|Refused|one|once|alone|all|each|whatever|else)\\b)");
    private static final int PROMISES = 34;

    private final Check check = new Check();
    private final String document;
    private final boolean[] held;

    private BoundaryTest(String document) {
        this.document = document;
        held = new boolean[document.length()];
    }

    public static void main(String[] args) throws IOException, ReflectiveOperationException {
        Path path = Path.of(System.getProperty("document", "../shared/DOC.md"));
        boolean there = Files.isRegularFile(path);
        if (!there) {
            System.out.println("no document at " + path + ": its sentences are not looked up");
        }
        BoundaryTest test = new BoundaryTest(there ? Files.readString(path, StandardCharsets.UTF_8) : "");
        Bounds[] all = {new HouseBounds(), new TextBounds(), new HoursBounds(), new KindBounds(),
            new DueBounds(), new PaidBounds(), new KeptBounds()};
        for (Bounds bounds : all) {
            test.runAll(bounds);
        }
        if (there) {
            test.nothingLeftOut();
        }
        test.check.finish();
    }

    private void runAll(Bounds bounds) throws ReflectiveOperationException {
        Method[] methods = bounds.getClass().getDeclaredMethods();
        Arrays.sort(methods, Comparator.comparing(Method::getName));
        for (Method m : methods) {
            Holds holds = m.getAnnotation(Holds.class);
            if (holds != null) {
                run(bounds, m, holds);
            }
        }
    }

    private void run(Bounds bounds, Method m, Holds holds) throws ReflectiveOperationException {
        String name = "promise " + holds.promise() + ", '" + holds.says() + "', " + m.getName();
        if (!document.isEmpty()) {
            mark(name, holds);
        }
        bounds.begin(check, name);
        int before = check.asked();
        try {
            m.invoke(bounds);
        } catch (InvocationTargetException e) {
            check.fail(name + " threw " + e.getCause());
        }
        if (check.asked() == before) {
            check.fail(name + " looked at nothing");
        }
    }

    private void mark(String name, Holds holds) {
        int begin = startOf("## Promise " + holds.promise() + ":");
        int end = endOfPart(begin);
        int at = document.indexOf(holds.says(), begin);
        if (at < 0 || at + holds.says().length() > end) {
            at = document.indexOf(holds.says());
            boolean ahead = at >= 0 && at < startOf("## Promise 1:");
            int next = document.indexOf(holds.says(), at + 1);
            if (!ahead || next >= 0 && next < startOf("## Promise 1:")) {
                check.fail(name + ": these words do not stand there, or more than once");
                return;
            }
        }
        Arrays.fill(held, at, at + holds.says().length(), true);
    }

    private int startOf(String heading) {
        int at = document.indexOf("\n" + heading);
        if (at < 0) {
            throw new IllegalStateException("no " + heading);
        }
        return at + 1;
    }

    private int endOfPart(int begin) {
        int end = document.indexOf("\n## ", begin);
        return end < 0 ? document.length() : end;
    }

    private void nothingLeftOut() {
        lookThrough(document.indexOf("An object is used"), startOf("## The public face"));
        int terms = startOf("## Terms");
        lookThrough(document.indexOf('\n', terms), startOf("## Promise 1:"));
        for (int promise = 1; promise <= PROMISES; promise++) {
            int begin = startOf("## Promise " + promise + ":");
            int signature = document.indexOf("`: ", begin);
            lookThrough(signature + 2, endOfPart(begin));
        }
    }

    private void lookThrough(int begin, int end) {
        Matcher marks = MARKS.matcher(document).region(begin, end);
        while (marks.find()) {
            int at = marks.start();
            String around = document.substring(Math.max(begin, at - 30), Math.min(end, at + 30));
            check.due("a test for the sentence of '" + marks.group() + "' in '" + around + "'",
                    held[at] && held[marks.end() - 1] ? 1 : 0, 1);
        }
    }
}
