import java.io.ByteArrayOutputStream;
import java.io.IOException;
import java.io.PrintStream;
import java.lang.reflect.Method;
import java.lang.reflect.Modifier;
import java.net.URI;
import java.net.URL;
import java.net.URLClassLoader;
import java.nio.file.Files;
import java.nio.file.Path;
import java.util.ArrayList;
import java.util.List;
import java.util.regex.Matcher;
import java.util.regex.Pattern;
import javax.tools.JavaCompiler;
import javax.tools.JavaFileObject;
import javax.tools.SimpleJavaFileObject;
import javax.tools.ToolProvider;

/** README.md, read where the test is run: its example is compiled and run as it stands there. */
public final class ReadmeTest {
    private static final Pattern EXAMPLE = Pattern.compile("```java\n(.*?)```", Pattern.DOTALL);
    private static final Pattern PRINTED = Pattern.compile("// prints (-?\\w+)");

    private final Check check = new Check("ReadmeTest");
    private final String readme;

    private ReadmeTest(String readme) {
        this.readme = readme;
    }

    public static void main(String[] args) throws IOException {
        ReadmeTest test = new ReadmeTest(Files.readString(Path.of("README.md")));
        test.check.each(test);
        test.check.end();
    }

    void exampleHolds() throws Exception {
        Matcher example = EXAMPLE.matcher(readme);
        check.that("has an example", example.find());
        List<String> due = new ArrayList<>();
        Matcher printed = PRINTED.matcher(example.group(1));
        while (printed.find()) {
            due.add(printed.group(1));
        }
        check.that("the example prints something", !due.isEmpty());
        List<String> got = printedBy(example.group(1));
        check.that("the example prints " + got + ", due is " + due, got.equals(due));
    }

    void everyCallIsTold() {
        for (Method method : RegularSolver.class.getDeclaredMethods()) {
            if (Modifier.isPublic(method.getModifiers())) {
                check.that(method.getName() + " is told", readme.contains("| `" + method.getName() + "("));
            }
        }
    }

    void everyTestIsTold() throws IOException {
        try (var files = Files.list(Path.of("src/test/java"))) {
            for (Path file : files.toList()) {
                String name = file.getFileName().toString().replace(".java", "");
                check.that(name + " is told", readme.contains("`" + name + "`"));
            }
        }
    }

    private static List<String> printedBy(String example) throws Exception {
        String code = "public final class Example { public static void main(String[] args) {\n" + example + "}}\n";
        Path out = Files.createTempDirectory("readme");
        try {
            compile(code, out);
            return linesOf(out);
        } finally {
            Files.deleteIfExists(out.resolve("Example.class"));
            Files.delete(out);
        }
    }

    private static void compile(String code, Path out) {
        JavaFileObject source = new SimpleJavaFileObject(URI.create("string:///Example.java"),
                JavaFileObject.Kind.SOURCE) {
            @Override
            public CharSequence getCharContent(boolean ignoreEncodingErrors) {
                return code;
            }
        };
        JavaCompiler compiler = ToolProvider.getSystemJavaCompiler();
        List<String> options = List.of("-d", out.toString(), "-cp", System.getProperty("java.class.path"));
        if (!compiler.getTask(null, null, null, options, null, List.of(source)).call()) {
            throw new IllegalStateException("the example does not compile");
        }
    }

    private static List<String> linesOf(Path out) throws Exception {
        ByteArrayOutputStream caught = new ByteArrayOutputStream();
        PrintStream before = System.out;
        try (URLClassLoader loader = new URLClassLoader(new URL[] {out.toUri().toURL()})) {
            Method main = loader.loadClass("Example").getMethod("main", String[].class);
            System.setOut(new PrintStream(caught, true));
            main.invoke(null, (Object) new String[0]);
        } finally {
            System.setOut(before);
        }
        return caught.toString().lines().toList();
    }
}
