import java.io.IOException;
import java.net.URL;
import java.net.URLClassLoader;
import java.nio.file.Files;
import java.nio.file.Path;
import java.util.ArrayList;
import java.util.List;
import java.util.regex.Matcher;
import java.util.regex.Pattern;
import java.util.stream.Stream;
import javax.tools.ToolProvider;

/** The calls that README.md shows, compiled and made: each answer that stands behind one must be so. */
final class ReadmeTest {
    private static final Pattern BLOCK = Pattern.compile("```java\n(.*?)```", Pattern.DOTALL);
    /** A call, and the answer behind it; what follows a colon is for the reader. */
    private static final Pattern SHOWN = Pattern.compile("((?:house\\.|written\\().*\\)); +// (-?\\d+|NONE|STATE|FULL|\"[^\"]*\")(?::.*)?");
    private static final Pattern CALL = Pattern.compile("(?:house\\.|written\\().*");

    public static void main(String[] args) throws Exception {
        List<String> blocks = blocks(Files.readString(Path.of("README.md")));
        Probe.is("blocks of calls in README.md", Math.min(blocks.size(), 5), 5);
        Path built = Files.createTempDirectory("readme");
        try {
            Path source = Files.writeString(built.resolve("ReadmeCalls.java"), program(blocks));
            String path = System.getProperty("java.class.path");
            int code = ToolProvider.getSystemJavaCompiler().run(null, null, null, "-cp", path, "-d", built.toString(), source.toString());
            Probe.is("README.md can be compiled", code, 0);
            if (code == 0) {
                run(built);
            }
        } finally {
            remove(built);
        }
        Probe.finish("ReadmeTest");
    }

    private static List<String> blocks(String text) {
        List<String> blocks = new ArrayList<>();
        Matcher matcher = BLOCK.matcher(text);
        while (matcher.find()) {
            blocks.add(matcher.group(1));
        }
        return blocks;
    }

    /** A block of methods stands as it is; each other block becomes a method, its calls with their answers looked at. */
    private static String program(List<String> blocks) {
        StringBuilder methods = new StringBuilder();
        StringBuilder calls = new StringBuilder();
        for (int i = 0; i < blocks.size(); i++) {
            if (blocks.get(i).startsWith("static ")) {
                methods.append(blocks.get(i));
            } else {
                methods.append("private static void block").append(i).append("() {\n").append(looked(blocks.get(i))).append("}\n");
                calls.append("block").append(i).append("();\n");
            }
        }
        return "public final class ReadmeCalls {\n"
            + "static final int NONE = MissionHouse.NONE, STATE = MissionHouse.STATE, FULL = MissionHouse.FULL;\n"
            + "public static final java.util.List<String> WRONG = new java.util.ArrayList<>();\n"
            + "static void due(String call, Object got, Object want) {\n"
            + "if (!got.equals(want)) { WRONG.add(call + \" answers \" + got + \", README.md says \" + want); }\n}\n"
            + methods + "public static void all() {\n" + calls + "}\n}\n";
    }

    private static String looked(String block) {
        StringBuilder code = new StringBuilder();
        for (String line : block.split("\n")) {
            Matcher shown = SHOWN.matcher(line);
            if (shown.matches()) {
                String call = shown.group(1);
                code.append("due(\"").append(call.replace("\"", "\\\"")).append("\", ").append(call).append(", ").append(shown.group(2)).append(");\n");
            } else {
                Probe.is("each call has its answer: " + line, CALL.matcher(line).matches() ? 1 : 0, 0);
                code.append(line).append('\n');
            }
        }
        return code.toString();
    }

    private static void run(Path built) throws Exception {
        try (URLClassLoader loader = new URLClassLoader(new URL[] {built.toUri().toURL()}, ReadmeTest.class.getClassLoader())) {
            Class<?> calls = loader.loadClass("ReadmeCalls");
            calls.getMethod("all").invoke(null);
            Object wrong = calls.getField("WRONG").get(null);
            Probe.is("answers in README.md that are not so", wrong.toString(), "[]");
        }
    }

    private static void remove(Path built) throws IOException {
        try (Stream<Path> files = Files.list(built)) {
            for (Path file : (Iterable<Path>) files::iterator) {
                Files.delete(file);
            }
        }
        Files.delete(built);
    }
}
