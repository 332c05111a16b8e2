import java.lang.reflect.Constructor;
import java.lang.reflect.Field;
import java.lang.reflect.Method;
import java.lang.reflect.Modifier;
import java.nio.charset.StandardCharsets;
import java.nio.file.Files;
import java.nio.file.Path;
import java.util.Arrays;
import java.util.HashSet;
import java.util.Set;
import java.util.TreeSet;
import java.util.regex.Pattern;

/** The public face, and those rules of ../shared/LANGUAGE.md that can be seen from the text or the class. */
public final class FaceTest {
    private static final Check CHECK = new Check();
    private static final String[] FACE = {"turn/3", "say/2", "part/3", "remove/1", "correct/2", "uncorrect/1",
        "speaker/1", "give/2", "join/2", "set/2", "turnOf/2", "termAt/3", "termOf/2", "speakerOf/2", "during/2",
        "interrupts/2", "nearest/1", "would/2", "together/1", "silence/1", "doubtful/1", "count/1", "undo/0",
        "type/1", "clearText/0", "fault/1", "play/0"};
    private static final String[] IMPORTS = {"Arrays", "ArrayList", "List", "Iterator", "NoSuchElementException"};
    private static final String[] FORBIDDEN = {"\\bpackage\\b", "\\bprotected\\b", "::", "\\bsynchronized\\b",
        "\\bassert\\b", "\\bfinally\\b", "\\bstatic\\s*\\{", "\\bFloat\\.", "\\bDouble\\.", "Exact\\b",
        "\\bSystem\\.(?!arraycopy)", "\\bArrays\\.(?!fill|copyOf)", "\\bgetMessage\\b",
        "\\b(ArrayIndexOutOfBounds|NullPointer|ClassCast|NegativeArraySize|ArrayStore)Exception\\b"};

    public static void main(String[] args) throws Exception {
        constantsAreAsTold();
        membersAreAsTold();
        textKeepsToTheLanguage();
        CHECK.end();
    }

    private static void constantsAreAsTold() {
        CHECK.due("INVALID_ARGUMENT", -1000001, LectureTurns.INVALID_ARGUMENT);
        CHECK.due("NOT_POSSIBLE", -1000002, LectureTurns.NOT_POSSIBLE);
        CHECK.due("LIMIT_REACHED", -1000003, LectureTurns.LIMIT_REACHED);
        CHECK.due("NOT_FOUND", -1000004, LectureTurns.NOT_FOUND);
    }

    private static void membersAreAsTold() {
        Class<?> face = LectureTurns.class;
        int modifiers = face.getModifiers();
        CHECK.holds("public and final", Modifier.isPublic(modifiers) && Modifier.isFinal(modifiers));
        Set<String> names = new TreeSet<>();
        for (Method method : face.getDeclaredMethods()) {
            boolean isPublic = Modifier.isPublic(method.getModifiers());
            CHECK.holds(method + " is public or private", isPublic || Modifier.isPrivate(method.getModifiers()));
            if (isPublic) {
                names.add(method.getName() + "/" + method.getParameterCount());
                CHECK.holds(method + " answers int", method.getReturnType() == int.class);
            }
        }
        CHECK.holds("the face's methods are " + names, names.equals(new TreeSet<>(Arrays.asList(FACE))));
        Set<String> constants = new HashSet<>();
        for (Field field : face.getDeclaredFields()) {
            if (!Modifier.isPrivate(field.getModifiers())) {
                constants.add(field.getName());
            }
        }
        CHECK.holds("the face's constants are " + constants, constants.equals(
                Set.of("INVALID_ARGUMENT", "NOT_POSSIBLE", "LIMIT_REACHED", "NOT_FOUND")));
        for (Constructor<?> constructor : face.getDeclaredConstructors()) {
            CHECK.holds("one constructor", constructor.getParameterCount() == 0
                    && Modifier.isPublic(constructor.getModifiers()));
        }
        insideClassesAreHidden(face);
    }

    private static void insideClassesAreHidden(Class<?> face) {
        Set<String> publicNames = new HashSet<>();
        for (String name : FACE) {
            publicNames.add(name.substring(0, name.indexOf('/')));
        }
        CHECK.holds("some twelve classes", face.getDeclaredClasses().length <= 12);
        for (Class<?> inside : face.getDeclaredClasses()) {
            CHECK.holds(inside + " is static", Modifier.isStatic(inside.getModifiers()));
            CHECK.holds(inside + " is hidden", !Modifier.isPublic(inside.getModifiers()));
            for (Method method : inside.getDeclaredMethods()) {
                CHECK.holds(method + " has a name of its own", !Modifier.isPrivate(method.getModifiers())
                        || !publicNames.contains(method.getName()));
            }
        }
    }

    private static void textKeepsToTheLanguage() throws Exception {
        String text = Files.readString(Path.of("src/main/java/LectureTurns.java"), StandardCharsets.UTF_8);
        String code = text.replaceAll("(?s)/\\*.*?\\*/", "").replaceAll("//[^\n]*", "");
        for (String pattern : FORBIDDEN) {
            CHECK.holds("no " + pattern, !Pattern.compile(pattern).matcher(code).find());
        }
        for (String line : code.split("\n")) {
            boolean known = Arrays.stream(IMPORTS).anyMatch(name -> line.equals("import java.util." + name + ";"));
            CHECK.holds("import of another class: " + line, known || !line.startsWith("import "));
        }
        CHECK.holds("signs 1 to 127", text.chars().allMatch(sign -> sign > 0 && sign < 128));
    }
}
