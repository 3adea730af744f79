import java.lang.management.ManagementFactory;
import java.lang.reflect.Constructor;
import java.lang.reflect.Field;
import java.lang.reflect.Method;
import java.lang.reflect.Modifier;
import java.nio.file.Files;
import java.nio.file.Path;
import java.util.ArrayList;
import java.util.List;
import java.util.Set;
import java.util.TreeSet;

// The class has the document's face and nothing besides, keeps to the words of LANGUAGE.md that can be
// seen in its text, and makes no objects once it has been made. Run from the project's root.
public final class FaceTest {
    private static final Set<String> METHODS = Set.of(
        "writeEdge(int,boolean,int,int)", "writeClaim(int,int)", "writeTruce(int,int)", "callBack(int)", "pass(int)",
        "set(int,int)", "type(char)", "clearText()", "perform()", "stopped(int)", "undo()", "keep()", "restore()",
        "edge(int,int)", "field(int,int)", "joined(int)", "letter(int,int)", "crossed(int,int)",
        "reasonEdge(boolean,int,int)", "reasonClaim(int)", "next(int)", "ifAllCome(int)", "bestClaim(int)", "count(int)");
    private static final Set<String> CONSTANTS = Set.of("UNKNOWN=-1", "BAD_VALUE=-2", "FULL=-3", "NOT_POSSIBLE=-4", "NONE=-5");
    private static final String[] RULED_OUT = {
        "throw", "throws", "try", "catch", "finally", "synchronized", "assert", "protected", "abstract", "native", "volatile"};
    private static final int MOST_LINES = 60;
    private static final long BYTES_THAT_DO_NOT_MATTER = 4096;

    private static int wrong = 0;

    private static void holds(String what, boolean so) {
        if (!so) {
            wrong++;
            System.out.println("does not hold: " + what);
        }
    }

    private static String shape(Method method) {
        List<String> types = new ArrayList<>();
        for (Class<?> type : method.getParameterTypes()) {
            types.add(type.getSimpleName());
        }
        return method.getName() + "(" + String.join(",", types) + ")";
    }

    private static void face() throws Exception {
        Class<?> duel = FenceDuel.class;
        holds("public and final", Modifier.isPublic(duel.getModifiers()) && Modifier.isFinal(duel.getModifiers()));
        Set<String> methods = new TreeSet<>();
        Set<String> names = new TreeSet<>();
        for (Method method : duel.getDeclaredMethods()) {
            if (!Modifier.isPrivate(method.getModifiers())) {
                methods.add(shape(method));
                names.add(method.getName());
                holds(method + " answers int", method.getReturnType() == int.class);
                holds(method + " is public and an object's", method.getModifiers() == Modifier.PUBLIC);
            }
        }
        holds("methods of the face: " + methods, methods.equals(METHODS));
        Set<String> constants = new TreeSet<>();
        for (Field field : duel.getDeclaredFields()) {
            int how = field.getModifiers();
            if (!Modifier.isPrivate(how)) {
                holds(field + " is a constant", how == (Modifier.PUBLIC | Modifier.STATIC | Modifier.FINAL));
                constants.add(field.getName() + "=" + field.getInt(null));
            }
            holds(field + " is final, if it is static", !Modifier.isStatic(how) || Modifier.isFinal(how));
        }
        holds("constants of the face: " + constants, constants.equals(CONSTANTS));
        Constructor<?>[] constructors = duel.getDeclaredConstructors();
        holds("one constructor", constructors.length == 1 && constructors[0].getParameterCount() == 0
            && constructors[0].getModifiers() == Modifier.PUBLIC);
        privateNames(duel, names);
        for (Class<?> inside : duel.getDeclaredClasses()) {
            holds(inside + " is static", Modifier.isStatic(inside.getModifiers()));
            holds(inside + " is not seen", !Modifier.isPublic(inside.getModifiers()));
            for (Method method : inside.getDeclaredMethods()) {
                holds(method + " bears no name of the face", !names.contains(method.getName()));
            }
        }
    }

    private static void privateNames(Class<?> duel, Set<String> names) {
        for (Method method : duel.getDeclaredMethods()) {
            if (Modifier.isPrivate(method.getModifiers())) {
                holds(method + " bears no name of the face", !names.contains(method.getName()));
            }
        }
    }

    private static void text() throws Exception {
        List<String> lines = Files.readAllLines(Path.of("src/main/java/FenceDuel.java"));
        int began = 0;
        for (int i = 0; i < lines.size(); i++) {
            String line = lines.get(i);
            String code = line.trim();
            boolean comment = code.startsWith("*") || code.startsWith("/**") || code.startsWith("//");
            if (!comment) {
                for (String word : RULED_OUT) {
                    holds("line " + (i + 1) + " without " + word, !code.matches("(.*\\W)?" + word + "(\\W.*)?"));
                }
                holds("line " + (i + 1) + " without lambda", !code.contains("->") && !code.contains("::"));
            }
            holds("line " + (i + 1) + " imports Arrays alone", !code.startsWith("import ") || code.equals("import java.util.Arrays;"));
            if (line.matches(" {4}( {4})?\\S.*\\) \\{")) {
                began = i;
            }
            if (line.matches(" {4}( {4})?\\}")) {
                holds("the method of line " + (began + 1) + " is short", i - began < MOST_LINES || line.startsWith("    }"));
            }
        }
    }

    private static void oneRoom() {
        com.sun.management.ThreadMXBean threads = (com.sun.management.ThreadMXBean) ManagementFactory.getThreadMXBean();
        runOfAllCalls(new FenceDuel());
        long self = Thread.currentThread().getId();
        FenceDuel x = new FenceDuel();
        long before = threads.getThreadAllocatedBytes(self);
        runOfAllCalls(x);
        long made = threads.getThreadAllocatedBytes(self) - before;
        holds("calls make no objects, but made bytes: " + made, made <= BYTES_THAT_DO_NOT_MATTER);
    }

    private static void runOfAllCalls(FenceDuel x) {
        for (int i = 0; i < 20; i++) {
            x.writeEdge(i % 2, false, i, 2);
            x.writeEdge(1 - i % 2, i % 3 == 0, i + 8, 0);
            x.writeClaim(i % 2, i);
            x.writeTruce(i % 2, 5);
            x.callBack(i);
            x.pass(2);
            x.set(i % 2, 1 + i % 9);
            x.clearText();
            x.type('.');
            x.type('1');
            x.perform();
            x.stopped(0);
            x.undo();
            x.keep();
            x.restore();
            x.edge(i, 1);
            x.field(i, 1);
            x.joined(i);
            x.letter(i, 6);
            x.crossed(0, i);
            x.reasonEdge(true, i, 1);
            x.reasonClaim(i);
            x.next(0);
            x.ifAllCome(i % 4);
            x.bestClaim(1);
            x.count(i);
        }
    }

    public static void main(String[] args) throws Exception {
        face();
        text();
        oneRoom();
        System.out.println(wrong == 0 ? "the face is as told" : wrong + " do not hold");
        if (wrong != 0) {
            System.exit(1);
        }
    }
}
