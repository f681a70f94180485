import java.io.IOException;
import java.lang.reflect.Constructor;
import java.lang.reflect.Field;
import java.lang.reflect.Method;
import java.lang.reflect.Modifier;
import java.nio.file.Files;
import java.nio.file.Path;
import java.util.Set;
import java.util.TreeSet;
import java.util.regex.Pattern;

/** The public face, and such rules of LANGUAGE.md as can be read off the class or its text. */
public final class FaceTest {
    private static final String SOURCE = "src/main/java/LiveHull.java";
    private static final Set<String> FACE = Set.of("int add(int, int)", "int remove(int)",
        "int move(int, int, int)", "int point(int, int)", "int ranked(int)", "int part(int, int)",
        "int chain(int, int, int)", "int bridge(int, int, int)", "int round(int)",
        "int extreme(int, int)", "int where(int, int)", "int touch(int, int, int)", "long area()",
        "int image(int)", "int restore(int)", "int told(int)");
    private static final Check check = new Check();

    public static void main(String[] args) throws IOException {
        constants();
        constructor();
        methods();
        onlyTheFaceIsSeen();
        text();
        check.end();
    }

    private static void yes(String what, boolean got) {
        check.due(what, got ? 1 : 0, 1);
    }

    private static void constants() {
        check.about("the constants");
        check.due("NONE", LiveHull.NONE, -6);
        check.due("UNKNOWN", LiveHull.UNKNOWN, -1);
        check.due("OUTSIDE", LiveHull.OUTSIDE, -2);
        check.due("STATE", LiveHull.STATE, -3);
        check.due("FULL", LiveHull.FULL, -4);
        check.due("NO", LiveHull.NO, -5);
    }

    private static void constructor() {
        check.about("the class");
        yes("public", Modifier.isPublic(LiveHull.class.getModifiers()));
        yes("final", Modifier.isFinal(LiveHull.class.getModifiers()));
        Constructor<?>[] made = LiveHull.class.getDeclaredConstructors();
        check.due("constructors", made.length, 1);
        yes("a public one without arguments",
            Modifier.isPublic(made[0].getModifiers()) && made[0].getParameterCount() == 0);
    }

    private static void methods() {
        check.about("the methods");
        Set<String> seen = new TreeSet<>();
        for (Method method : LiveHull.class.getDeclaredMethods()) {
            if (Modifier.isPublic(method.getModifiers())) seen.add(told(method));
        }
        yes("as in the document, not " + seen, seen.equals(FACE));
    }

    private static String told(Method method) {
        StringBuilder types = new StringBuilder();
        for (Class<?> type : method.getParameterTypes()) {
            types.append(types.length() == 0 ? "" : ", ").append(type);
        }
        return method.getReturnType() + " " + method.getName() + "(" + types + ")";
    }

    private static void onlyTheFaceIsSeen() {
        check.about("rule 1");
        Set<String> publicNames = new TreeSet<>();
        for (String signature : FACE) publicNames.add(signature.replaceAll(".* |\\(.*", ""));
        for (Method method : LiveHull.class.getDeclaredMethods()) {
            int modifiers = method.getModifiers();
            boolean face = Modifier.isPublic(modifiers) && FACE.contains(told(method));
            yes(told(method) + " is of the face, or private with a name of its own",
                face || Modifier.isPrivate(modifiers) && !publicNames.contains(method.getName()));
        }
        Set<String> constants = Set.of("NONE", "UNKNOWN", "OUTSIDE", "STATE", "FULL", "NO");
        for (Field field : LiveHull.class.getDeclaredFields()) {
            boolean constant = constants.contains(field.getName());
            yes(field.getName() + " is seen only if it is a constant of the face",
                constant == Modifier.isPublic(field.getModifiers())
                    && (constant || Modifier.isPrivate(field.getModifiers())));
        }
        for (Class<?> inside : LiveHull.class.getDeclaredClasses()) {
            yes(inside.getName() + " is static", Modifier.isStatic(inside.getModifiers()));
            yes(inside.getName() + " is not public", !Modifier.isPublic(inside.getModifiers()));
        }
    }

    private static void text() throws IOException {
        check.about("the text");
        String text = Files.readString(Path.of(SOURCE)).replaceAll("(?s)/\\*.*?\\*/|//[^\n]*", "");
        String[] ruledOut = {"throw", "throws", "try", "catch", "finally", "synchronized", "assert",
            "import", "package", "protected", "double", "float", "Object", "toString", "equals",
            "hashCode"};
        for (String word : ruledOut) {
            yes("no word " + word, !Pattern.compile("\\b" + word + "\\b").matcher(text).find());
        }
        yes("no lambda, no method reference", !text.contains("->") && !text.contains("::"));
        // What is made is made with the object: no call fills the room.
        for (String line : text.split("\n")) {
            yes("made with the object: " + line.trim(),
                !line.contains("new ") || line.matches("( {8}\\w+| {8}final int\\[\\] \\w+) = new .*"));
        }
    }
}
