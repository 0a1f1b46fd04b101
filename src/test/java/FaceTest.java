import java.lang.reflect.Constructor;
import java.lang.reflect.Field;
import java.lang.reflect.Method;
import java.lang.reflect.Modifier;
import java.nio.file.Files;
import java.nio.file.Path;
import java.util.Arrays;
import java.util.Set;
import java.util.TreeSet;

/** The face of the class, and those rules of ../shared/LANGUAGE.md that can be told without reading for sense. */
public final class FaceTest {
    private static final String[] METHODS = {"int stone(int,int,int)", "int line(int,int,int)", "int citings(int,int,int,int)",
        "int ofStone(int,int)", "int worth(int)", "int says(int)", "int ofLine(int,int)", "int change(int,int,int)",
        "int take(int,int,int)", "int restore(int)", "int with(int,int,int)", "int falls(int,int)", "int turned(int,int)",
        "int hangs(int)", "long hung(int)", "int seed(int)", "int months(int)", "int feed(int,int)", "int text(int)",
        "int odds(int,int)", "int letter(int)", "int copy(int,int)", "int mark(int,int)", "int lacks(int)",
        "int tell(int,int)", "int land(int)", "int name(int,int,int)", "int share(int,int)", "int hands(int,int)",
        "int fair(int)", "int span(int,int)", "int undo()", "int redo()", "int act(int,int,int)", "int trace(int)",
        "int keep(int,int)", "int row(int,int,int)", "int put(int,int,long)", "long element(int,int)",
        "int shift(int,int,int,int,int)", "int taken(int,int)", "int count(int)"};
    private static final String[] NEVER = {"throw", "throws", "try", "catch", "finally", "synchronized", "assert", "import",
        "package", "float", "double", "null instanceof", "->", "::", "equals", "hashCode", "toString", "Exact", "Object",
        "System.out", "Random", "currentTimeMillis", "nanoTime"};

    private FaceTest() {
    }

    public static void main(String[] args) throws Exception {
        Class<?> c = TakenBack.class;
        Check.due("public and final", c.getModifiers(), Modifier.PUBLIC | Modifier.FINAL);
        methods(c);
        constants(c);
        classesInside(c);
        if (args.length > 0) {
            source(Files.readString(Path.of(args[0])));
        }
        Check.end();
    }

    private static String face(Method m) {
        StringBuilder t = new StringBuilder(m.getReturnType() + " " + m.getName() + "(");
        for (Class<?> p : m.getParameterTypes()) {
            t.append(t.charAt(t.length() - 1) == '(' ? "" : ",").append(p);
        }
        return t.append(")").toString();
    }

    private static void methods(Class<?> c) {
        Set<String> found = new TreeSet<>(), names = new TreeSet<>();
        for (Method m : c.getDeclaredMethods()) {
            if (Modifier.isPublic(m.getModifiers())) {
                found.add(face(m));
                names.add(m.getName());
            }
        }
        Check.due("the methods of the face", found.equals(new TreeSet<>(Arrays.asList(METHODS))) ? 1 : 0, 1);
        for (Class<?> of : c.getDeclaredClasses()) {
            noNameOfTheFace(of, names);
        }
        for (Method m : c.getDeclaredMethods()) {
            if (!Modifier.isPublic(m.getModifiers())) {
                Check.due("private: " + m, Modifier.isPrivate(m.getModifiers()) ? 1 : 0, 1);
                Check.due("no name of the face: " + m, names.contains(m.getName()) ? 1 : 0, 0);
            }
        }
        for (Constructor<?> k : c.getDeclaredConstructors()) {
            Check.due("the one constructor", k.getModifiers() == Modifier.PUBLIC && k.getParameterCount() == 0 ? 1 : 0, 1);
        }
    }

    private static void noNameOfTheFace(Class<?> of, Set<String> names) {
        for (Method m : of.getDeclaredMethods()) {
            Check.due("no name of the face: " + m, names.contains(m.getName()) ? 1 : 0, 0);
            Check.due("at most seven parameters: " + m, m.getParameterCount() <= 7 ? 1 : 0, 1);
        }
    }

    private static void constants(Class<?> c) throws Exception {
        String[] names = {"BAD", "NOT", "FULL", "STATE", "VOID"};
        int[] due = {-1, -2, -3, -5, -2000000000};
        int found = 0;
        for (Field f : c.getDeclaredFields()) {
            boolean isPublic = Modifier.isPublic(f.getModifiers());
            Check.due("public or private: " + f, isPublic || Modifier.isPrivate(f.getModifiers()) ? 1 : 0, 1);
            found += isPublic ? 1 : 0;
        }
        Check.due("constants of the face", found, names.length);
        for (int n = 0; n < names.length; n++) {
            Check.due(names[n], c.getField(names[n]).getInt(null), due[n]);
        }
    }

    private static void classesInside(Class<?> c) {
        Check.due("some twelve classes", c.getDeclaredClasses().length < 13 ? 1 : 0, 1);
        for (Class<?> of : c.getDeclaredClasses()) {
            int m = of.getModifiers();
            Check.due("static: " + of, Modifier.isStatic(m) ? 1 : 0, 1);
            Check.due("neither public nor protected: " + of, Modifier.isPublic(m) || Modifier.isProtected(m) ? 1 : 0, 0);
            int fields = 0;
            for (Field f : of.getDeclaredFields()) {
                fields += Modifier.isStatic(f.getModifiers()) ? 0 : 1;
                Check.due("static ones are final: " + f,
                    Modifier.isStatic(f.getModifiers()) && !Modifier.isFinal(f.getModifiers()) ? 1 : 0, 0);
            }
            Check.due("some twenty fields: " + of, fields <= 20 ? 1 : 0, 1);
        }
    }

    private static void source(String text) {
        String code = text.replaceAll("(?s)/\\*.*?\\*/", "").replaceAll("//.*", "");
        for (String word : NEVER) {
            String edge = Character.isLetter(word.charAt(0)) ? "\\b" : "";
            boolean found = java.util.regex.Pattern.compile(edge + java.util.regex.Pattern.quote(word) + edge).matcher(code).find();
            Check.due("without " + word, found ? 1 : 0, 0);
        }
        int length = 0;
        for (String line : code.split("\n")) {
            boolean head = line.matches(" {4}( {4})?\\S.*\\) \\{");
            boolean end = line.matches(" {4}( {4})?\\}");
            length = head ? 1 : length + 1;
            Check.due("a method of some sixty lines: " + line, end && length > 60 && length < 400 ? 1 : 0, 0);
        }
        for (int n = 0; n < text.length(); n++) {
            Check.due("signs of the source, " + n, text.charAt(n) < 128 ? 1 : 0, 1);
        }
    }
}
