import java.io.IOException;
import java.lang.reflect.Field;
import java.lang.reflect.Method;
import java.lang.reflect.Modifier;
import java.nio.file.Files;
import java.nio.file.Path;
import java.util.ArrayList;
import java.util.Arrays;
import java.util.List;
import java.util.Set;
import java.util.TreeSet;
import java.util.regex.Matcher;
import java.util.regex.Pattern;

/** What can be seen of LANGUAGE.md from outside: the face, the shape of the classes, words that may not stand there. */
public final class FaceTest {
    private static final Path SOURCE = Path.of("src/main/java/BurstPeeler.java");
    private static final Path DOCUMENT = Path.of("../shared/DOC.md");
    private static final Set<String> STATIC_TYPES = Set.of("int", "long", "boolean", "char", "java.lang.String",
        "[I", "[J", "[C", "[B");

    private FaceTest() {
    }

    private static void holds(String what, boolean good) {
        Check.due(what, good, true);
    }

    private static Set<String> faceOfDocument() throws IOException {
        Set<String> face = new TreeSet<>();
        Matcher m = Pattern.compile("^    public (\\w+) (\\w+)\\((.*?)\\)( throws \\w+)?;", Pattern.MULTILINE)
            .matcher(Files.readString(DOCUMENT));
        while (m.find()) {
            face.add(m.group(1) + " " + m.group(2) + "(" + m.group(3).replaceAll("(\\w+) \\w+", "$1") + ")");
        }
        return face;
    }

    private static Set<String> faceOfClass() {
        Set<String> face = new TreeSet<>();
        for (Method m : BurstPeeler.class.getDeclaredMethods()) {
            if (Modifier.isPublic(m.getModifiers())) {
                List<String> types = new ArrayList<>();
                Arrays.stream(m.getParameterTypes()).forEach(t -> types.add(t.getName()));
                face.add(m.getReturnType().getName() + " " + m.getName() + "(" + String.join(", ", types) + ")");
            } else {
                holds(m + " is private", Modifier.isPrivate(m.getModifiers()));
            }
        }
        return face;
    }

    private static void checkFace() throws IOException {
        Set<String> want = faceOfDocument();
        Set<String> got = faceOfClass();
        Check.due("methods of the document", want.size(), 53);
        holds("the face is that of the document: " + want + " / " + got, want.equals(got));
        holds("public and final", Modifier.isFinal(BurstPeeler.class.getModifiers()));
        Check.due("constructors", BurstPeeler.class.getDeclaredConstructors().length, 1);
        List<String> open = new ArrayList<>();
        for (Field f : BurstPeeler.class.getDeclaredFields()) {
            if (!Modifier.isPrivate(f.getModifiers())) {
                open.add(f.getName());
            }
        }
        holds("open fields: " + open, open.equals(List.of("NONE", "HIDDEN")));
    }

    private static void checkClass(Class<?> c, Set<String> faceNames) {
        int fields = 0;
        for (Field f : c.getDeclaredFields()) {
            if (Modifier.isStatic(f.getModifiers())) {
                holds(f + " is final", Modifier.isFinal(f.getModifiers()));
                holds(f + " is of a type that may be static", STATIC_TYPES.contains(f.getType().getName()));
            } else {
                fields++;
            }
        }
        holds(c + " has " + fields + " fields", fields <= 20);
        for (Method m : c.getDeclaredMethods()) {
            holds(m + " has seven parameters at most", m.getParameterCount() <= 7);
            boolean isFace = c == BurstPeeler.class && Modifier.isPublic(m.getModifiers());
            holds(m + " has a name of its own", isFace || !faceNames.contains(m.getName()));
            holds(m + " is no lambda", !m.isSynthetic());
        }
    }

    private static void checkClasses() {
        Set<String> faceNames = new TreeSet<>();
        for (Method m : BurstPeeler.class.getDeclaredMethods()) {
            if (Modifier.isPublic(m.getModifiers())) {
                faceNames.add(m.getName());
            }
        }
        checkClass(BurstPeeler.class, faceNames);
        Class<?>[] inside = BurstPeeler.class.getDeclaredClasses();
        holds("twelve classes at most", inside.length + 1 <= 12);
        for (Class<?> c : inside) {
            holds(c + " is static", Modifier.isStatic(c.getModifiers()));
            holds(c + " is not open", !Modifier.isPublic(c.getModifiers()) && !Modifier.isProtected(c.getModifiers()));
            checkClass(c, faceNames);
        }
    }

    private static void checkSource() throws IOException {
        String source = Files.readString(SOURCE);
        String code = source.replaceAll("(?s)/\\*.*?\\*/", "").replaceAll("//[^\n]*", "");
        String[] never = {"->", "::", "\\bfinally\\b", "\\bsynchronized\\b", "\\bassert\\b", "\\bprotected\\b", "\\btry\\b",
            "\\bcatch\\b", "\\bFloat\\b", "\\bDouble\\b", "Exact\\(", "\\bSystem\\.(?!arraycopy)", "\\bthrow new (?!NoSuch)",
            "\" \\+|\\+ \"", "\\bhashCode\\b", "\\btoString\\b", "\\bRandom\\b", "\\bpackage\\b", "%\\s*\\w+[fd]\\b"};
        for (String word : never) {
            holds("no " + word, !Pattern.compile(word).matcher(code).find());
        }
        Matcher imports = Pattern.compile("import ([\\w.]+);").matcher(code);
        while (imports.find()) {
            holds(imports.group(1), Set.of("java.util.Arrays", "java.util.NoSuchElementException").contains(imports.group(1)));
        }
        int start = 0;
        int number = 0;
        for (String line : source.split("\n")) {
            number++;
            holds("line " + number + " is not too long", line.length() <= 120);
            holds("line " + number + " is plain", line.chars().allMatch(c -> c >= 32 && c <= 126));
            if (line.matches("    (    )?[a-z].*\\) (throws \\w+ )?\\{")) {
                start = number;
            }
            if (line.matches("    (    )?\\}")) {
                holds("the method that ends in line " + number + " is short", start == 0 || number - start <= 60);
                start = 0;
            }
        }
    }

    public static void main(String[] args) throws IOException {
        checkFace();
        checkClasses();
        checkSource();
        Check.finish();
    }
}
