import java.io.IOException;
import java.lang.reflect.Field;
import java.lang.reflect.Method;
import java.lang.reflect.Modifier;
import java.nio.file.Files;
import java.nio.file.Path;
import java.util.Set;
import java.util.TreeSet;

/** The public face as the document has it, and what can be seen of LANGUAGE.md's rules. */
public final class FaceTest {
    private static final String[] FACE = {"int write(int)", "int wipe()", "int fault()", "int belt()",
        "int zone(int, int)", "int feed(int)", "int lift(int)", "int turn()", "int eye(int, int)",
        "int make(int, int)", "int clear(int)", "int step(int)", "int undo()", "int ahead(int, int, int)",
        "int ask(int)", "int row(int)", "int judge(int, long)", "int see(int, int, int)", "int unsee()",
        "int which()", "int share(int, boolean)", "int shut(int, int, boolean)", "long seed(long)",
        "int drawn(int)", "int keep(int)", "int again(int)", "int count(int)"};

    public static void main(String[] args) throws IOException {
        constants();
        methods();
        classesInside();
        words();
        Due.end("FaceTest");
    }

    private static void yes(String what, boolean so) {
        Due.is(what, so ? 1 : 0, 1);
    }

    private static void constants() {
        Due.is("UNKNOWN", ZoneBelt.UNKNOWN, -1);
        Due.is("OUTSIDE", ZoneBelt.OUTSIDE, -2);
        Due.is("STATE", ZoneBelt.STATE, -3);
        Due.is("FULL", ZoneBelt.FULL, -4);
        Due.is("NONE", ZoneBelt.NONE, -9);
        int open = 0;
        for (Field field : ZoneBelt.class.getDeclaredFields()) {
            if (!Modifier.isPrivate(field.getModifiers())) {
                open++;
                yes(field.getName(), Modifier.isPublic(field.getModifiers()) && Modifier.isStatic(field.getModifiers()));
            }
        }
        Due.is("constants", open, 5);
    }

    private static void methods() {
        Set<String> open = new TreeSet<>();
        Set<String> names = new TreeSet<>();
        for (Method method : ZoneBelt.class.getDeclaredMethods()) {
            if (!Modifier.isPrivate(method.getModifiers())) {
                yes(method.getName(), Modifier.isPublic(method.getModifiers()) && !Modifier.isStatic(method.getModifiers()));
                open.add(told(method));
                names.add(method.getName());
            }
        }
        for (String method : FACE) {
            yes(method, open.remove(method));
        }
        yes("nothing else: " + open, open.isEmpty());
        for (Class<?> inside : ZoneBelt.class.getDeclaredClasses()) {
            for (Method method : inside.getDeclaredMethods()) {
                yes("a name of its own: " + method, !names.contains(method.getName()));
            }
        }
        for (Method method : ZoneBelt.class.getDeclaredMethods()) {
            yes("a name of its own: " + method, !Modifier.isPrivate(method.getModifiers())
                || !names.contains(method.getName()));
            yes("seven parameters at most", method.getParameterCount() <= 7);
        }
        Due.is("constructors", ZoneBelt.class.getDeclaredConstructors().length, 1);
        Due.is("public ones", ZoneBelt.class.getConstructors().length, 1);
        yes("public and final", ZoneBelt.class.getModifiers() == (Modifier.PUBLIC | Modifier.FINAL));
    }

    private static String told(Method method) {
        StringBuilder row = new StringBuilder(method.getReturnType() + " " + method.getName() + "(");
        for (int i = 0; i < method.getParameterCount(); i++) {
            row.append(i == 0 ? "" : ", ").append(method.getParameterTypes()[i]);
        }
        return row.append(")").toString();
    }

    private static void classesInside() {
        yes("twelve at most", ZoneBelt.class.getDeclaredClasses().length <= 12);
        for (Class<?> inside : ZoneBelt.class.getDeclaredClasses()) {
            yes("static and not public: " + inside, Modifier.isStatic(inside.getModifiers())
                && !Modifier.isPublic(inside.getModifiers()) && !Modifier.isProtected(inside.getModifiers()));
            int fields = 0;
            for (Field field : inside.getDeclaredFields()) {
                boolean shared = Modifier.isStatic(field.getModifiers());
                fields += shared ? 0 : 1;
                yes("final: " + field, !shared || Modifier.isFinal(field.getModifiers()));
            }
            yes("twenty fields at most", fields <= 20);
        }
    }

    private static void words() throws IOException {
        String root = System.getProperty("project.root", ".");
        String code = Files.readString(Path.of(root, "src/main/java/ZoneBelt.java"))
            .replaceAll("(?s)/\\*.*?\\*/", " ").replaceAll("//[^\n]*", " ");
        String[] words = {"throw", "throws", "try", "catch", "finally", "synchronized", "assert", "import", "package",
            "java", "volatile", "native", "Object", "Thread", "Random", "hashCode", "toString"};
        for (String word : words) {
            yes("no " + word, !code.matches("(?s).*\\b" + word + "\\b.*"));
        }
        yes("no lambda", !code.contains("->"));
        yes("no method reference", !code.contains("::"));
        yes("while loops tell no end", !code.contains("while"));
        for (char c : code.toCharArray()) {
            if (c > 126) {
                yes("a sign beyond 126", false);
            }
        }
    }
}
