import java.io.ByteArrayOutputStream;
import java.io.IOException;
import java.lang.reflect.Method;
import java.lang.reflect.Modifier;
import java.net.URL;
import java.net.URLClassLoader;
import java.nio.charset.StandardCharsets;
import java.nio.file.Files;
import java.nio.file.Path;
import java.util.ArrayList;
import java.util.List;
import java.util.Set;
import java.util.TreeSet;
import java.util.function.IntSupplier;
import java.util.regex.Matcher;
import java.util.regex.Pattern;
import javax.tools.JavaCompiler;
import javax.tools.ToolProvider;

/** The calls that README.md shows, run from top to bottom, answer what stands behind them. */
public final class ReadmeTest {
    /* int name = court.call(..);  // answer: remark */
    private static final Pattern CALL =
        Pattern.compile("(?:int (\\w+) = )?((?:court\\.\\w+|tell)\\(.*\\));\\s*// (-?\\d+|true|false)(?::.*)?");
    private static final Pattern METHOD = Pattern.compile("\\bcourt\\.(\\w+)\\(");
    private static final String MADE = "TwisterCourt court = new TwisterCourt();";

    /* What stands around README.md's lines; run() counts the answers that are not as shown. */
    private static final String AHEAD = """
        public class ReadmeRun implements java.util.function.IntSupplier {
        private int wrong = 0;
        private void due(String call, Object got, Object shown) {
            if (!got.equals(shown)) {
                wrong++;
                System.out.println("README.md: " + call + " answered " + got + ", it shows " + shown);
            }
        }
        """;

    private static int wrong = 0;
    private static int answers = 0;

    public static void main(String[] args) throws Exception {
        List<String> methods = new ArrayList<>();
        List<String> lines = new ArrayList<>();
        Set<String> shown = new TreeSet<>();
        for (List<String> block : blocksOf(Files.readAllLines(Path.of("README.md")))) {
            if (block.get(0).startsWith("static ")) {
                methods.addAll(block);
            } else {
                addLines(block, lines);
            }
            addShown(block, shown);
        }
        checkShown(shown);
        if (wrong == 0) {
            run(sourceOf(methods, lines));
        }
        System.out.println(wrong == 0 ? "README.md shows " + answers + " answers, and they are so"
            : wrong + " things that README.md shows are not so");
        if (wrong != 0) {
            System.exit(1);
        }
    }

    private static List<List<String>> blocksOf(List<String> readme) {
        List<List<String>> blocks = new ArrayList<>();
        List<String> block = null;
        for (String line : readme) {
            if (line.equals("```java")) {
                block = new ArrayList<>();
                blocks.add(block);
            } else if (line.equals("```")) {
                block = null;
            } else if (block != null) {
                block.add(line);
            }
        }
        return blocks;
    }

    /** A call without its answer would leave open whether what is shown is so; it counts as wrong. */
    private static void addLines(List<String> block, List<String> lines) {
        for (String line : block) {
            Matcher m = CALL.matcher(line);
            if (line.equals(MADE)) {
                lines.add(line);
            } else if (m.matches()) {
                answers++;
                lines.add(m.group(1) == null ? "" : "int " + m.group(1) + " = " + m.group(3) + ";");
                lines.add("due(\"" + m.group(2).replace("\"", "\\\"") + "\", " + m.group(2) + ", " + m.group(3) + ");");
            } else {
                wrong++;
                System.out.println("README.md: no call with its answer: " + line);
            }
        }
    }

    private static void addShown(List<String> block, Set<String> shown) {
        for (String line : block) {
            Matcher m = METHOD.matcher(line);
            while (m.find()) {
                shown.add(m.group(1));
            }
        }
    }

    /** README.md shows every method of the face at least once. */
    private static void checkShown(Set<String> shown) {
        for (Method m : TwisterCourt.class.getDeclaredMethods()) {
            if (Modifier.isPublic(m.getModifiers()) && !shown.contains(m.getName())) {
                wrong++;
                System.out.println("README.md does not show " + m.getName());
            }
        }
    }

    private static String sourceOf(List<String> methods, List<String> lines) {
        return AHEAD + String.join("\n", methods) + "\npublic int getAsInt() {\n" + String.join("\n", lines)
            + "\nreturn wrong;\n}\n}\n";
    }

    private static void run(String source) throws Exception {
        Path out = Files.createTempDirectory("readme");
        Path file = out.resolve("ReadmeRun.java");
        try {
            Files.writeString(file, source);
            if (isCompiled(file, out)) {
                URL[] where = {out.toUri().toURL()};
                try (URLClassLoader loader = new URLClassLoader(where)) {
                    Object made = loader.loadClass("ReadmeRun").getDeclaredConstructor().newInstance();
                    wrong += ((IntSupplier) made).getAsInt();
                }
            }
        } finally {
            Files.deleteIfExists(file);
            Files.deleteIfExists(out.resolve("ReadmeRun.class"));
            Files.deleteIfExists(out);
        }
    }

    private static boolean isCompiled(Path file, Path out) throws IOException {
        JavaCompiler compiler = ToolProvider.getSystemJavaCompiler();
        ByteArrayOutputStream said = new ByteArrayOutputStream();
        boolean isCompiled = compiler != null && compiler.run(null, said, said, "-cp",
            System.getProperty("java.class.path"), "-d", out.toString(), file.toString()) == 0;
        if (!isCompiled) {
            wrong++;
            System.out.println("README.md does not compile: " + said.toString(StandardCharsets.UTF_8));
        }
        return isCompiled;
    }
}
