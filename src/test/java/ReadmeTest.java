import java.io.ByteArrayOutputStream;
import java.io.IOException;
import java.io.PrintStream;
import java.lang.reflect.Method;
import java.lang.reflect.Modifier;
import java.net.URI;
import java.net.URL;
import java.net.URLClassLoader;
import java.nio.charset.StandardCharsets;
import java.nio.file.Files;
import java.nio.file.Path;
import java.util.Comparator;
import java.util.List;
import java.util.stream.Stream;
import javax.tools.JavaCompiler;
import javax.tools.JavaFileObject;
import javax.tools.SimpleJavaFileObject;
import javax.tools.ToolProvider;

/** README.md: its example prints what is told there, and every call, refusal and test stands there. */
public final class ReadmeTest {
    private static final Check CHECK = new Check();
    private static final String[] REFUSALS = {"-1", "-2", "-3", "-4", "-5", "-6", "-7", "-1000"};

    public static void main(String[] args) throws IOException, ReflectiveOperationException {
        String readme = Files.readString(Path.of("README.md"));
        calls(readme);
        tests(readme);
        for (String refusal : REFUSALS) {
            CHECK.holds("README.md tells what " + refusal + " means", readme.contains("\n| " + refusal + " | "));
        }
        CHECK.holds("README.md names .ci/run, which can be run",
            readme.contains("\n.ci/run\n") && Files.isExecutable(Path.of(".ci/run")));
        String due = block(readme, "text");
        String printed = printedBy(block(readme, "java"));
        CHECK.holds("the example prints\n" + due + "but printed\n" + printed, printed.equals(due));
        CHECK.finish();
    }

    /** In the table of calls, each just once. */
    private static void calls(String readme) {
        String table = readme.substring(readme.indexOf("### The calls"), readme.indexOf("### What can't be answered"));
        int named = table.split("`[a-z]+`", -1).length - 1;
        int face = 0;
        for (Method method : BranchGuess.class.getDeclaredMethods()) {
            if (Modifier.isPublic(method.getModifiers())) {
                face++;
                CHECK.holds("README.md names " + method.getName(), table.contains("`" + method.getName() + "`"));
            }
        }
        CHECK.holds("README.md names " + named + " calls, there are " + face, named == face);
    }

    private static void tests(String readme) throws IOException {
        try (Stream<Path> files = Files.list(Path.of("src/test/java"))) {
            for (Path file : files.toList()) {
                String name = file.getFileName().toString().replace(".java", "");
                CHECK.holds("README.md tells of " + name, !name.endsWith("Test") || readme.contains("`" + name + "`"));
            }
        }
    }

    /** The first block of that kind. */
    private static String block(String readme, String kind) {
        int from = readme.indexOf("```" + kind + "\n");
        int end = readme.indexOf("\n```\n", from);
        CHECK.holds("README.md has a block of " + kind, from >= 0 && end > from);
        return from >= 0 && end > from ? readme.substring(from + kind.length() + 4, end + 1) : "";
    }

    private static String printedBy(String example) throws IOException, ReflectiveOperationException {
        Path out = Files.createTempDirectory("readme");
        try {
            JavaCompiler compiler = ToolProvider.getSystemJavaCompiler();
            boolean compiled = compiler.getTask(null, null, null,
                List.of("-d", out.toString(), "-cp", System.getProperty("java.class.path")), null,
                List.of(source(example))).call();
            CHECK.holds("the example can be compiled", compiled);
            return compiled ? run(out) : "";
        } finally {
            try (Stream<Path> files = Files.walk(out)) {
                for (Path file : files.sorted(Comparator.reverseOrder()).toList()) {
                    Files.delete(file);
                }
            }
        }
    }

    private static JavaFileObject source(String example) {
        return new SimpleJavaFileObject(URI.create("string:///Example.java"), JavaFileObject.Kind.SOURCE) {
            @Override
            public CharSequence getCharContent(boolean ignored) {
                return example;
            }
        };
    }

    private static String run(Path out) throws IOException, ReflectiveOperationException {
        PrintStream before = System.out;
        ByteArrayOutputStream printed = new ByteArrayOutputStream();
        try (URLClassLoader loader = new URLClassLoader(new URL[] {out.toUri().toURL()})) {
            System.setOut(new PrintStream(printed, true, StandardCharsets.UTF_8));
            loader.loadClass("Example").getMethod("main", String[].class).invoke(null, (Object) new String[0]);
        } finally {
            System.setOut(before);
        }
        return printed.toString(StandardCharsets.UTF_8).replace(System.lineSeparator(), "\n");
    }
}
