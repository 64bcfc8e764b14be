import java.io.IOException;
import java.lang.reflect.Constructor;
import java.lang.reflect.Field;
import java.lang.reflect.Method;
import java.lang.reflect.Modifier;
import java.nio.charset.StandardCharsets;
import java.nio.file.Files;
import java.nio.file.Path;
import java.util.Arrays;
import java.util.List;
import java.util.Set;
import java.util.TreeSet;
import java.util.regex.Matcher;
import java.util.regex.Pattern;

/** What of LANGUAGE.md can be seen from outside: the face, and words that must not stand there. */
public final class LanguageTest {
    private static final Check CHECK = new Check();

    private static final String[] FACE = {"int house(int)", "int rate(int,int)", "int bar(int,int)",
        "int doing(int,int)", "int type(int)", "int clear()", "int read()", "int does(int,int)",
        "int waits(int)", "int war(int)", "int undo()", "int of(int,int)", "int now(int)",
        "int due(int,int,int)", "int both(int,int)", "int least(int)", "int before(int,int,int,int)",
        "int child(int)", "int where(int)", "int bars(int)", "int note(int,int,int,int,int)",
        "int forget()", "int is(int)", "int look(int,int)", "int wars(int,int)", "int sentry(int,int)",
        "int days(int,int)", "long part(int)", "int image(int)", "int from(int)", "int status(int)",
        "int count(int)", "long digest()"};

    private static final String[] WORDS = {"throw", "throws", "try", "catch", "finally", "synchronized",
        "assert", "import", "package", "protected", "volatile", "native", "transient", "System.out",
        "System.err", "Object", "->", "::", "@"};

    public static void main(String[] args) throws IOException {
        face();
        source();
        CHECK.finish();
    }

    private static void face() {
        Class<?> c = BedFrontier.class;
        CHECK.due("public and final", c.getModifiers() & (Modifier.PUBLIC | Modifier.FINAL),
                Modifier.PUBLIC | Modifier.FINAL);
        Set<String> open = new TreeSet<>();
        Set<String> hidden = new TreeSet<>();
        for (Method m : c.getDeclaredMethods()) {
            if (Modifier.isPrivate(m.getModifiers())) {
                hidden.add(m.getName());
            } else {
                open.add(shape(m));
            }
        }
        same("the methods", open, new TreeSet<>(Arrays.asList(FACE)));
        for (String name : FACE) {
            String bare = name.substring(name.indexOf(' ') + 1, name.indexOf('('));
            CHECK.due("a private " + bare, hidden.contains(bare) ? 1 : 0, 0);
        }
        Set<String> fields = new TreeSet<>();
        for (Field f : c.getDeclaredFields()) {
            if (!Modifier.isPrivate(f.getModifiers())) {
                fields.add(Modifier.toString(f.getModifiers()) + " " + f.getType() + " " + f.getName());
            }
        }
        same("the constants", fields, new TreeSet<>(List.of("public static final int NONE",
                "public static final int BAD", "public static final int NO", "public static final int FULL")));
        Constructor<?>[] makers = c.getDeclaredConstructors();
        CHECK.due("constructors", makers.length, 1);
        CHECK.due("its parameters", makers[0].getParameterCount(), 0);
        CHECK.due("it is public", Modifier.isPublic(makers[0].getModifiers()) ? 1 : 0, 1);
        CHECK.due("classes inside, twelve at most", c.getDeclaredClasses().length < 12 ? 1 : 0, 1);
        for (Class<?> inside : c.getDeclaredClasses()) {
            innerClass(inside);
        }
    }

    private static void innerClass(Class<?> c) {
        int m = c.getModifiers();
        CHECK.due(c + " is static", Modifier.isStatic(m) ? 1 : 0, 1);
        CHECK.due(c + " is not public", m & (Modifier.PUBLIC | Modifier.PROTECTED), 0);
        int fields = 0;
        for (Field f : c.getDeclaredFields()) {
            if (Modifier.isStatic(f.getModifiers())) {
                CHECK.due(f + " is final", Modifier.isFinal(f.getModifiers()) ? 1 : 0, 1);
            } else {
                fields++;
            }
        }
        CHECK.due(c + ": twenty fields at most", fields <= 20 ? 1 : 0, 1);
        for (Method method : c.getDeclaredMethods()) {
            CHECK.due(method + ": seven parameters at most", method.getParameterCount() <= 7 ? 1 : 0, 1);
            for (String shape : FACE) {
                String bare = shape.substring(shape.indexOf(' ') + 1, shape.indexOf('('));
                CHECK.due(method + " bears no name of the face", method.getName().equals(bare) ? 1 : 0, 0);
            }
        }
    }

    private static String shape(Method m) {
        StringBuilder all = new StringBuilder();
        all.append(m.getReturnType()).append(' ').append(m.getName()).append('(');
        for (Class<?> p : m.getParameterTypes()) {
            all.append(all.charAt(all.length() - 1) == '(' ? "" : ",").append(p);
        }
        return all.append(')').toString();
    }

    private static void same(String what, Set<String> got, Set<String> want) {
        CHECK.due(what, got.equals(want) ? 1 : 0, 1);
        if (!got.equals(want)) {
            System.out.println("there: " + got);
            System.out.println("due:   " + want);
        }
    }

    private static void source() throws IOException {
        String path = System.getProperty("source", "src/main/java/BedFrontier.java");
        byte[] bytes = Files.readAllBytes(Path.of(path));
        String code = new String(bytes, StandardCharsets.ISO_8859_1);
        for (byte b : bytes) {
            CHECK.due("a byte of the source", b >= 0 ? 1 : 0, 1);
        }
        String bare = code.replaceAll("(?s)/\\*.*?\\*/", " ").replaceAll("//[^\n]*", " ");
        for (String word : WORDS) {
            boolean letters = Character.isLetter(word.charAt(0));
            String pattern = letters ? "(?<![A-Za-z])" + Pattern.quote(word) + "\\b" : Pattern.quote(word);
            CHECK.due("'" + word + "' in the source", Pattern.compile(pattern).matcher(bare).find() ? 1 : 0, 0);
        }
        CHECK.due("names that end in Exact", Pattern.compile("Exact\\b").matcher(bare).find() ? 1 : 0, 0);
        methodLengths(bare);
    }

    private static void methodLengths(String bare) {
        String[] lines = bare.split("\n");
        int start = -1;
        int indent = 0;
        Pattern head = Pattern.compile("^( +)[^=;]*\\([^;=]*\\) \\{$");
        for (int i = 0; i < lines.length; i++) {
            Matcher m = head.matcher(lines[i]);
            if (start < 0 && m.find() && !lines[i].trim().matches("(if|for|while|switch|do|\\}).*")) {
                start = i;
                indent = m.group(1).length();
            } else if (start >= 0 && lines[i].matches(" {" + indent + "}\\}\\s*")) {
                CHECK.due("sixty lines at most: " + lines[start].trim(), i - start <= 60 ? 1 : 0, 1);
                start = -1;
            }
        }
    }
}
