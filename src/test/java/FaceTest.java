import java.io.IOException;
import java.lang.reflect.Constructor;
import java.lang.reflect.Field;
import java.lang.reflect.Method;
import java.lang.reflect.Modifier;
import java.nio.file.Files;
import java.nio.file.Path;
import java.util.HashSet;
import java.util.Set;
import java.util.TreeSet;
import java.util.regex.Matcher;
import java.util.regex.Pattern;

/** The public face, and the rules of LANGUAGE.md that can be read off the class and its file. */
public final class FaceTest {
    private static final String[] FACE = {
        "boolean start(int)", "int inputs()", "boolean on(int)", "boolean dc(int)",
        "int size(int)", "int cube(int,int)", "int literals(int)", "int kind(int)",
        "boolean holds(int,int)", "int missing(int)", "boolean tautology(int)",
        "boolean same(int,int)", "boolean prime(int,int)", "int widen(int)", "int minimize()"};
    private static final String[] RULED_OUT = {
        "\\bpackage\\b", "\\bthrow\\b", "\\bthrows\\b", "\\btry\\b", "\\bcatch\\b",
        "\\bsynchronized\\b", "\\bassert\\b", "->", "::", "\\bimport\\b", "\\bSystem\\b",
        "\\bvar\\b", "\\bpublic\\s+static\\b", "\\bprotected\\b", "\\bequals\\b", "Exact\\b"};

    private FaceTest() {
    }

    public static void main(String[] args) throws IOException {
        publicMethods();
        otherMembers();
        nestedClasses();
        if (args.length > 0) {
            sourceText(Files.readString(Path.of(args[0])));
        }
        Check.due("the file's path is given", args.length, 1);
        Check.end();
    }

    private static void publicMethods() {
        Set<String> found = new TreeSet<>();
        for (Method method : CubeMin.class.getDeclaredMethods()) {
            if (Modifier.isPublic(method.getModifiers())) {
                found.add(method.toString().replaceAll("public |CubeMin\\.", ""));
            }
        }
        for (String method : FACE) {
            Check.due("the face has " + method, found.remove(method), true);
        }
        Check.due("the face has also " + found, found.size(), 0);
        Check.due("public and final", CubeMin.class.getModifiers(),
            Modifier.PUBLIC | Modifier.FINAL);
        // Otherwise the face would have what is inherited as well.
        Check.due("a subclass of Object", CubeMin.class.getSuperclass() == Object.class, true);
        Check.due("interfaces", CubeMin.class.getInterfaces().length, 0);
    }

    private static void otherMembers() {
        Set<String> faceNames = new HashSet<>();
        for (String method : FACE) {
            faceNames.add(method.replaceAll("^\\w+ |\\(.*", ""));
        }
        for (Method method : CubeMin.class.getDeclaredMethods()) {
            int modifiers = method.getModifiers();
            if (!Modifier.isPublic(modifiers)) {
                Check.due(method + " is private", Modifier.isPrivate(modifiers), true);
                Check.due(method + " bears a name of the face",
                    faceNames.contains(method.getName()), false);
            }
            Check.due(method + " has at most seven parameters",
                method.getParameterCount() <= 7, true);
        }
        Constructor<?>[] constructors = CubeMin.class.getDeclaredConstructors();
        Check.due("constructors", constructors.length, 1);
        Check.due(constructors[0] + " is the document's", constructors[0].getParameterCount(), 0);
        Check.due(constructors[0] + " is public",
            Modifier.isPublic(constructors[0].getModifiers()), true);
        fields(CubeMin.class);
        for (Field field : CubeMin.class.getDeclaredFields()) {
            Check.due(field + " is private", Modifier.isPrivate(field.getModifiers()), true);
        }
    }

    private static void nestedClasses() {
        Check.atMost("classes in the file", 1 + CubeMin.class.getDeclaredClasses().length, 12);
        for (Class<?> nested : CubeMin.class.getDeclaredClasses()) {
            int modifiers = nested.getModifiers();
            Check.due(nested + " is static", Modifier.isStatic(modifiers), true);
            Check.due(nested + " is public or protected",
                Modifier.isPublic(modifiers) || Modifier.isProtected(modifiers), false);
            fields(nested);
        }
    }

    private static void fields(Class<?> type) {
        int ownFields = 0;
        for (Field field : type.getDeclaredFields()) {
            if (Modifier.isStatic(field.getModifiers())) {
                Check.due(field + " is final", Modifier.isFinal(field.getModifiers()), true);
            } else {
                ownFields++;
            }
        }
        Check.due(type + " has some twenty fields at most", ownFields <= 20, true);
    }

    private static void sourceText(String source) {
        String code = source.replaceAll("(?s)/\\*.*?\\*/", "").replaceAll("//[^\n]*", "");
        for (String ruledOut : RULED_OUT) {
            Matcher matcher = Pattern.compile(ruledOut).matcher(code);
            Check.due("the file has " + ruledOut, matcher.find(), false);
        }
    }
}
