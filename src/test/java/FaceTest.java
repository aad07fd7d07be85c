import java.io.IOException;
import java.lang.reflect.Field;
import java.lang.reflect.Method;
import java.lang.reflect.Modifier;
import java.nio.file.Files;
import java.nio.file.Path;
import java.util.ArrayList;
import java.util.Arrays;
import java.util.List;
import java.util.Set;
import java.util.TreeSet;
import java.util.regex.Matcher;
import java.util.regex.Pattern;

/** "The public face" of the document and rule 1 of LANGUAGE.md: the class has that face, and nothing else is open. */
public final class FaceTest {
    private static final Path DOCUMENT = Path.of("../shared/DOC.md");
    private static final Path SOURCE = Path.of("src/main/java/BurstPeeler.java");

    private FaceTest() {
    }

    private static void holds(String what, boolean good) {
        Check.due(what, good, true);
    }

    /** The lines of the code block below "The public face". */
    private static List<String> linesOfFace() throws IOException {
        Matcher block = Pattern.compile("## The public face\\s+```java\\n(.*?)\\n```", Pattern.DOTALL)
            .matcher(Files.readString(DOCUMENT));
        holds("the document has a block of code", block.find());
        return block.group(1).lines().map(String::strip).filter(line -> !line.isEmpty()).toList();
    }

    private static Set<String> faceOfDocument() throws IOException {
        Set<String> face = new TreeSet<>();
        for (String line : linesOfFace()) {
            Matcher m = Pattern.compile("public (\\w+) (\\w+)\\((.*?)\\)( throws \\w+)?;").matcher(line);
            if (m.matches()) {
                String thrown = m.group(4) == null ? "" : m.group(4);
                face.add(m.group(1) + " " + m.group(2) + "(" + m.group(3).replaceAll("(\\w+) \\w+", "$1") + ")" + thrown);
            }
        }
        return face;
    }

    private static Set<String> faceOfClass() {
        Set<String> face = new TreeSet<>();
        for (Method m : BurstPeeler.class.getDeclaredMethods()) {
            if (Modifier.isPublic(m.getModifiers())) {
                List<String> types = new ArrayList<>();
                Arrays.stream(m.getParameterTypes()).forEach(t -> types.add(t.getName()));
                String thrown = "";
                for (Class<?> type : m.getExceptionTypes()) {
                    thrown += " throws " + type.getSimpleName();
                }
                face.add(m.getReturnType().getName() + " " + m.getName() + "(" + String.join(", ", types) + ")" + thrown);
            } else {
                holds(m + " is private", Modifier.isPrivate(m.getModifiers()));
            }
        }
        return face;
    }

    private static void checkFace() throws IOException {
        Set<String> want = faceOfDocument();
        Set<String> got = faceOfClass();
        Check.due("methods of the document", want.size(), 53);
        holds("the face is that of the document: " + want + " / " + got, want.equals(got));
        int flags = BurstPeeler.class.getModifiers();
        holds("public and final", Modifier.isPublic(flags) && Modifier.isFinal(flags));
        List<String> open = new ArrayList<>();
        for (Field f : BurstPeeler.class.getDeclaredFields()) {
            if (!Modifier.isPrivate(f.getModifiers())) {
                open.add(f.getName());
            }
        }
        holds("open fields: " + open, open.equals(List.of("NONE", "HIDDEN")));
    }

    /** Each line of the block, word by word, names of arguments too, is how the class has it. */
    private static void checkLines() throws IOException {
        String source = Files.readString(SOURCE);
        List<String> lines = linesOfFace();
        Check.due("lines of the face", lines.size(), 3 + 2 + 1 + 53);
        for (String line : lines) {
            if (!line.equals("}")) {
                String there = line.contains("(") ? line.replace(";", " {") : line;
                holds("the class has '" + there + "'", source.contains(there));
            }
        }
    }

    /** The constants, their types and values as the block tells them. */
    private static void checkConstants() throws IOException, ReflectiveOperationException {
        int found = 0;
        for (String line : linesOfFace()) {
            Matcher m = Pattern.compile("public static final (\\w+) (\\w+) = (-?\\d+);").matcher(line);
            if (m.matches()) {
                Field constant = BurstPeeler.class.getField(m.group(2));
                int flags = constant.getModifiers();
                holds(m.group(2) + " is static and final", Modifier.isStatic(flags) && Modifier.isFinal(flags));
                holds(m.group(2) + " is of type " + m.group(1), constant.getType().getName().equals(m.group(1)));
                Check.due(m.group(2), constant.getInt(null), Integer.parseInt(m.group(3)));
                found++;
            }
        }
        Check.due("constants of the document", found, 2);
    }

    /** The constructor is open, takes nothing, and makes an object each time. */
    private static void checkConstructor() throws ReflectiveOperationException {
        Check.due("constructors", BurstPeeler.class.getDeclaredConstructors().length, 1);
        holds("it is public", Modifier.isPublic(BurstPeeler.class.getConstructor().getModifiers()));
        holds("it throws nothing", BurstPeeler.class.getConstructor().getExceptionTypes().length == 0);
        holds("an object each", new BurstPeeler() != new BurstPeeler());
    }

    /** Rule 1: no other method bears a name of the face. */
    private static void checkNames() {
        Set<String> faceNames = new TreeSet<>();
        for (Method m : BurstPeeler.class.getDeclaredMethods()) {
            if (Modifier.isPublic(m.getModifiers())) {
                faceNames.add(m.getName());
            }
        }
        List<Class<?>> classes = new ArrayList<>(List.of(BurstPeeler.class.getDeclaredClasses()));
        classes.add(BurstPeeler.class);
        for (Class<?> c : classes) {
            for (Method m : c.getDeclaredMethods()) {
                boolean isFace = c == BurstPeeler.class && Modifier.isPublic(m.getModifiers());
                holds(m + " has a name of its own", isFace || !faceNames.contains(m.getName()));
            }
        }
    }

    public static void main(String[] args) throws IOException, ReflectiveOperationException {
        checkFace();
        checkLines();
        checkConstants();
        checkConstructor();
        checkNames();
        Check.finish();
    }
}
