import java.io.IOException;
import java.lang.reflect.Constructor;
import java.lang.reflect.Field;
import java.lang.reflect.Method;
import java.lang.reflect.Modifier;
import java.nio.file.Files;
import java.nio.file.Path;
import java.util.Set;
import java.util.TreeSet;
import java.util.regex.Matcher;
import java.util.regex.Pattern;

/** What of LANGUAGE.md can be seen from outside: the face, the words ruled out, the measures of the file. */
public final class LanguageTest {
    private static final String FACE = "about album arrive ask away back card clock close count drop end far feed give leave list may "
            + "meets member offer offers paid pay price rates ring rings rules span stamps state wish";
    private static final String[] RULED_OUT = {"throw", "throws", "try", "catch", "synchronized", "assert", "import", "package",
        "Object", "hashCode", "toString", "Random", "System", "Thread", "protected", "volatile", "abstract", "static \\{",
        "->", "::", "@", "\\w+Exact\\b"};

    public static void main(String[] args) throws IOException {
        face();
        inside();
        source(Files.readString(Path.of("src/main/java/CardClub.java")));
        Due.endOfTest();
    }

    private static void face() {
        Due.part("rule 1, face");
        Set<String> open = new TreeSet<>();
        for (Method m : CardClub.class.getDeclaredMethods()) {
            if (Modifier.isPublic(m.getModifiers())) {
                open.add(m.getName());
            } else if (!Modifier.isPrivate(m.getModifiers()) && !m.isSynthetic()) {
                Due.wrong(m + " is neither public nor private");
            } else if (Set.of(FACE.split(" ")).contains(m.getName())) {
                Due.wrong(m + " is private and has the name of a public one");
            }
        }
        if (!String.join(" ", open).equals(FACE)) {
            Due.wrong("the methods are " + open);
        }
        for (Field f : CardClub.class.getDeclaredFields()) {
            if (!f.isSynthetic() && !Modifier.isPrivate(f.getModifiers()) && !f.getName().equals("NONE")) {
                Due.wrong(f + " is not private");
            }
        }
        for (Constructor<?> c : CardClub.class.getDeclaredConstructors()) {
            Due.is("parameters of the constructor", 0, c.getParameterCount());
        }
    }

    private static void inside() {
        Due.part("rules 1, 5, 11, classes inside");
        Class<?>[] classes = CardClub.class.getDeclaredClasses();
        if (classes.length > 11) {
            Due.wrong("too many classes: " + classes.length);
        }
        for (Class<?> c : classes) {
            if (!Modifier.isStatic(c.getModifiers()) || Modifier.isPublic(c.getModifiers())) {
                Due.wrong(c + " is not static, or it is public");
            }
            int own = 0;
            for (Field f : c.getDeclaredFields()) {
                boolean isStatic = Modifier.isStatic(f.getModifiers());
                own += isStatic ? 0 : 1;
                if (isStatic && !Modifier.isFinal(f.getModifiers())) {
                    Due.wrong(f + " is static and not final");
                }
            }
            if (own > 20) {
                Due.wrong(c + " has " + own + " fields");
            }
            for (Method m : c.getDeclaredMethods()) {
                if (m.getParameterCount() > 7 || Set.of(FACE.split(" ")).contains(m.getName())) {
                    Due.wrong(m + " has too many parameters, or the name of a public method");
                }
            }
        }
    }

    private static void source(String text) {
        Due.part("rules 4, 6, 11, 13, source");
        String bare = text.replaceAll("(?s)/\\*.*?\\*/", "").replaceAll("//[^\n]*", "").replaceAll("\"[^\"\n]*\"", "\"\"");
        for (String word : RULED_OUT) {
            Matcher m = Pattern.compile(word.matches("\\w+") ? "\\b" + word + "\\b" : word).matcher(bare);
            if (m.find()) {
                Due.wrong("'" + m.group() + "' stands in it");
            }
        }
        if (!text.chars().allMatch(c -> c < 128)) {
            Due.wrong("a sign over 127 stands in it");
        }
        methodsAreShort(bare);
    }

    private static void methodsAreShort(String bare) {
        int since = 0;
        int depth = 0;
        int line = 0;
        for (String row : bare.split("\n")) {
            line++;
            boolean begins = row.matches(" {4}(?: {4})?[\\w<][^=;]*\\) \\{");
            since = begins ? line : since;
            depth = begins ? row.indexOf(row.trim()) : depth;
            if (row.equals(" ".repeat(depth) + "}") && since > 0) {
                if (line - since > 60) {
                    Due.wrong("a method of " + (line - since) + " lines");
                }
                since = 0;
            }
        }
    }
}
