import java.io.IOException;
import java.lang.reflect.Field;
import java.lang.reflect.Method;
import java.lang.reflect.Modifier;
import java.nio.file.Files;
import java.nio.file.Path;
import java.util.ArrayList;
import java.util.Arrays;
import java.util.List;
import java.util.Set;
import java.util.TreeSet;
import java.util.regex.Matcher;
import java.util.regex.Pattern;

/** Rule 1 of LANGUAGE.md: the class has the face of the document, and nothing else is open. */
public final class FaceTest {
    private static final Path DOCUMENT = Path.of("../shared/DOC.md");

    private FaceTest() {
    }

    private static void holds(String what, boolean good) {
        Check.due(what, good, true);
    }

    private static Set<String> faceOfDocument() throws IOException {
        Set<String> face = new TreeSet<>();
        Matcher m = Pattern.compile("^    public (\\w+) (\\w+)\\((.*?)\\)( throws \\w+)?;", Pattern.MULTILINE)
            .matcher(Files.readString(DOCUMENT));
        while (m.find()) {
            face.add(m.group(1) + " " + m.group(2) + "(" + m.group(3).replaceAll("(\\w+) \\w+", "$1") + ")");
        }
        return face;
    }

    private static Set<String> faceOfClass() {
        Set<String> face = new TreeSet<>();
        for (Method m : BurstPeeler.class.getDeclaredMethods()) {
            if (Modifier.isPublic(m.getModifiers())) {
                List<String> types = new ArrayList<>();
                Arrays.stream(m.getParameterTypes()).forEach(t -> types.add(t.getName()));
                face.add(m.getReturnType().getName() + " " + m.getName() + "(" + String.join(", ", types) + ")");
            } else {
                holds(m + " is private", Modifier.isPrivate(m.getModifiers()));
            }
        }
        return face;
    }

    private static void checkFace() throws IOException {
        Set<String> want = faceOfDocument();
        Set<String> got = faceOfClass();
        Check.due("methods of the document", want.size(), 53);
        holds("the face is that of the document: " + want + " / " + got, want.equals(got));
        holds("public and final", Modifier.isFinal(BurstPeeler.class.getModifiers()));
        Check.due("constructors", BurstPeeler.class.getDeclaredConstructors().length, 1);
        List<String> open = new ArrayList<>();
        for (Field f : BurstPeeler.class.getDeclaredFields()) {
            if (!Modifier.isPrivate(f.getModifiers())) {
                open.add(f.getName());
            }
        }
        holds("open fields: " + open, open.equals(List.of("NONE", "HIDDEN")));
    }

    /** Rule 1: no other method bears a name of the face. */
    private static void checkNames() {
        Set<String> faceNames = new TreeSet<>();
        for (Method m : BurstPeeler.class.getDeclaredMethods()) {
            if (Modifier.isPublic(m.getModifiers())) {
                faceNames.add(m.getName());
            }
        }
        List<Class<?>> classes = new ArrayList<>(List.of(BurstPeeler.class.getDeclaredClasses()));
        classes.add(BurstPeeler.class);
        for (Class<?> c : classes) {
            for (Method m : c.getDeclaredMethods()) {
                boolean isFace = c == BurstPeeler.class && Modifier.isPublic(m.getModifiers());
                holds(m + " has a name of its own", isFace || !faceNames.contains(m.getName()));
            }
        }
    }

    public static void main(String[] args) throws IOException {
        checkFace();
        checkNames();
        Check.finish();
    }
}
