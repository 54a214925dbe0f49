import java.io.IOException;
import java.lang.reflect.Constructor;
import java.lang.reflect.Field;
import java.lang.reflect.Method;
import java.lang.reflect.Modifier;
import java.nio.file.Files;
import java.nio.file.Path;
import java.util.ArrayList;
import java.util.Arrays;
import java.util.List;
import java.util.Random;
import java.util.Set;
import java.util.TreeSet;

/** The public face, the rules of the language that can be seen from outside, and calls with any arguments in any state. */
final class FaceTest {
    private static final String[] FACE = {
        "feed int int int int int", "end int", "out int", "leap int int", "date", "written int", "orbit int int int int",
        "station int int int int", "sight int boolean", "power int int", "load int int int", "program int", "due int int",
        "mode int int int", "monitor int int int", "flip int int", "tick int", "ship int", "served int int", "runs int int",
        "word int int", "noise int int", "lose", "receive", "packet int", "command", "send int", "ground int",
        "pass int int int int", "gap int", "clear", "best int", "bar int int boolean", "way int int int int"};

    public static void main(String[] args) throws Exception {
        methods();
        fields();
        nested();
        source();
        anything();
        Probe.finish("FaceTest");
    }

    private static void methods() {
        Set<String> due = new TreeSet<>(Arrays.asList(FACE));
        Set<String> open = new TreeSet<>();
        Set<String> names = new TreeSet<>();
        for (Method method : MissionHouse.class.getDeclaredMethods()) {
            StringBuilder text = new StringBuilder(method.getName());
            for (Class<?> type : method.getParameterTypes()) {
                text.append(' ').append(type.getName());
            }
            if (!Modifier.isPrivate(method.getModifiers())) {
                open.add(text.toString());
                names.add(method.getName());
                Probe.is("public " + text, Modifier.isPublic(method.getModifiers()) ? 1 : 0, 1);
                Probe.is("answers int: " + text, method.getReturnType() == int.class ? 1 : 0, 1);
                Probe.is("not static: " + text, Modifier.isStatic(method.getModifiers()) ? 1 : 0, 0);
            }
        }
        Probe.is("methods", open.toString(), due.toString());
        List<Class<?>> all = new ArrayList<>(Arrays.asList(MissionHouse.class.getDeclaredClasses()));
        all.add(MissionHouse.class);
        for (Class<?> type : all) {
            for (Method method : type.getDeclaredMethods()) {
                boolean isOwn = type != MissionHouse.class || Modifier.isPrivate(method.getModifiers());
                Probe.is("no other method bears the name " + method.getName(), isOwn && names.contains(method.getName()) ? 1 : 0, 0);
                Probe.is("at most seven parameters", Math.max(7, method.getParameterCount()), 7);
            }
        }
        Constructor<?>[] constructors = MissionHouse.class.getDeclaredConstructors();
        Probe.is("one constructor", constructors.length, 1);
        Probe.is("public", constructors[0].getModifiers(), Modifier.PUBLIC);
        Probe.is("public and final", MissionHouse.class.getModifiers(), Modifier.PUBLIC | Modifier.FINAL);
    }

    private static void fields() {
        int open = 0;
        for (Field field : MissionHouse.class.getDeclaredFields()) {
            if (!Modifier.isPrivate(field.getModifiers())) {
                open++;
                Probe.is("a constant", field.getModifiers(), Modifier.PUBLIC | Modifier.STATIC | Modifier.FINAL);
            }
        }
        Probe.is("three constants", open, 3);
        Probe.is("NONE", MissionHouse.NONE, -1);
        Probe.is("STATE", MissionHouse.STATE, -3);
        Probe.is("FULL", MissionHouse.FULL, -4);
    }

    private static void nested() {
        Class<?>[] classes = MissionHouse.class.getDeclaredClasses();
        Probe.is("at most twelve classes", Math.max(12, classes.length + 1), 12);
        for (Class<?> type : classes) {
            Probe.is("static: " + type, Modifier.isStatic(type.getModifiers()) ? 1 : 0, 1);
            Probe.is("not public: " + type, type.getModifiers() & (Modifier.PUBLIC | Modifier.PROTECTED), 0);
            int state = 0;
            for (Field field : type.getDeclaredFields()) {
                boolean isStatic = Modifier.isStatic(field.getModifiers());
                state += isStatic ? 0 : 1;
                Probe.is("static fields are final", isStatic && !Modifier.isFinal(field.getModifiers()) ? 1 : 0, 0);
            }
            Probe.is("at most twenty fields: " + type, Math.max(20, state), 20);
        }
    }

    private static void source() throws IOException {
        String text = Files.readString(Path.of("src/main/java/MissionHouse.java"));
        String code = text.replaceAll("(?s)/\\*.*?\\*/", "").replaceAll("//[^\n]*", "");
        for (String word : new String[] {"throw", "try", "catch", "synchronized", "assert", "package", "lambda", "Exact", "protected"}) {
            Probe.is("no " + word, code.matches("(?s).*\\b" + word + "\\b.*") ? 1 : 0, 0);
        }
        Probe.is("no lambda", code.contains("->") ? 1 : 0, 0);
        Probe.is("no method reference", code.contains("::") ? 1 : 0, 0);
        // rule 4: the library; rule 12: what a run makes
        Probe.is("no library but java.util.Arrays", code.replace("import java.util.Arrays;", "").matches("(?s).*\\b(import|java)\\b.*") ? 1 : 0, 0);
        Probe.is("nothing is made but by constructors", madeByCalls(code), 0);
        Probe.is("methods of at most sixty lines", Math.max(60, longestMethod(text)), 60);
    }

    /** Lines with 'new' that are neither a field's first value nor in a constructor. */
    private static int madeByCalls(String code) {
        int found = 0;
        boolean inConstructor = false;
        for (String line : code.split("\n")) {
            if (line.matches(" +(public )?[A-Z]\\w*\\(.*\\) \\{")) {
                inConstructor = true;
            } else if (line.matches(" {4}( {4})?\\}")) {
                inConstructor = false;
            }
            boolean isField = line.matches(" +(private )?final [\\w\\[\\]]+ \\w+ = new .*");
            if (line.matches(".*\\bnew\\b.*") && !isField && !inConstructor) {
                found++;
            }
        }
        return found;
    }

    private static int longestMethod(String text) {
        int longest = 0;
        int length = 0;
        for (String line : text.split("\n")) {
            length = line.matches(" {4}( {4})?[\\w\\[\\] ]+\\(.*\\) \\{") ? 1 : length + 1;
            if (line.matches(" {4}( {4})?\\}")) {
                longest = Math.max(longest, length);
                length = 0;
            }
        }
        return longest;
    }

    /** Calls by any arguments, far more than 512 of them: none may throw. */
    private static void anything() throws Exception {
        List<Method> methods = new ArrayList<>();
        for (Method method : MissionHouse.class.getDeclaredMethods()) {
            if (Modifier.isPublic(method.getModifiers())) {
                methods.add(method);
            }
        }
        methods.sort((a, b) -> a.getName().compareTo(b.getName()));
        Random random = new Random(5);
        int[] edges = {Integer.MIN_VALUE, Integer.MAX_VALUE, -1, 0, 1, 2, 3, 4, 7, 8, 9, 11, 12, 23, 24, 63, 64, 99, 100, 101, 255, 256,
            500, 501, 1000, 3599, 3600, 3601, 20000, 20001, 99999, 1000000, 0x656e640a, 0x6f6e2030};
        for (int run = 0; run < 40; run++) {
            MissionHouse house = new MissionHouse();
            for (int i = 0; i < 2000; i++) {
                Method method = methods.get(random.nextInt(methods.size()));
                Object[] given = new Object[method.getParameterCount()];
                for (int j = 0; j < given.length; j++) {
                    given[j] = method.getParameterTypes()[j] == boolean.class ? (Object) random.nextBoolean()
                        : random.nextInt(6) == 0 ? random.nextInt() : edges[random.nextInt(edges.length)];
                }
                method.invoke(house, given);
            }
            Probe.is("still there", house.ship(15), -1);
        }
    }
}
