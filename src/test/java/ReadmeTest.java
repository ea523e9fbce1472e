import java.lang.reflect.InvocationTargetException;
import java.net.URI;
import java.nio.file.Files;
import java.nio.file.Path;
import java.util.List;
import java.util.regex.Matcher;
import java.util.regex.Pattern;
import javax.tools.JavaCompiler;
import javax.tools.JavaFileObject;
import javax.tools.SimpleJavaFileObject;
import javax.tools.ToolProvider;

/** The example of README.md is compiled and run: each call has to answer what is written beside it. */
public final class ReadmeTest {
    private static final Pattern EXAMPLE = Pattern.compile("(?s)```java\n(.*?)```");
    private static final Pattern CALL = Pattern.compile("(?m)^(tally\\..*); +// (-?\\d+)(:.*)?$");
    private static int calls;
    private static int wrong;

    public static void main(String[] args) throws Exception {
        Matcher example = EXAMPLE.matcher(Files.readString(Path.of("README.md")));
        if (!example.find()) fail("README.md has no example");
        run(compiled(checked(example.group(1))));
        if (wrong > 0 || calls < 20) fail(calls + " calls of README.md, " + wrong + " wrong");
        System.out.println(calls + " calls of README.md answer what it says");
    }

    /** Called by the example, once it is compiled. */
    public static void due(String call, int got, int want) {
        calls++;
        if (got == want) return;
        wrong++;
        System.out.println("README.md: " + call + " answered " + got + ", it says " + want);
    }

    private static String checked(String example) {
        StringBuilder body = new StringBuilder();
        Matcher call = CALL.matcher(example);
        while (call.find()) {
            String text = call.group(1);
            String check = "ReadmeTest.due(\"" + text + "\", " + text + ", " + call.group(2) + ");";
            call.appendReplacement(body, Matcher.quoteReplacement(check));
        }
        call.appendTail(body);
        return "public final class Example { public static void main(String[] args) {\n" + body + "} }\n";
    }

    private static Path compiled(String source) throws Exception {
        JavaCompiler compiler = ToolProvider.getSystemJavaCompiler();
        if (compiler == null) fail("there is no compiler");
        Path classes = Files.createTempDirectory("readme");
        JavaFileObject file = new SimpleJavaFileObject(URI.create("string:///Example.java"), JavaFileObject.Kind.SOURCE) {
            @Override
            public CharSequence getCharContent(boolean ignoreErrors) {
                return source;
            }
        };
        List<String> options = List.of("-d", classes.toString(), "-cp", System.getProperty("java.class.path"));
        if (!compiler.getTask(null, null, null, options, null, List.of(file)).call()) fail("the example does not compile");
        return classes;
    }

    private static void run(Path classes) throws Exception {
        try (var loader = new java.net.URLClassLoader(new java.net.URL[] {classes.toUri().toURL()})) {
            loader.loadClass("Example").getMethod("main", String[].class).invoke(null, (Object) new String[0]);
        } catch (InvocationTargetException thrown) {
            fail("the example throws " + thrown.getCause());
        }
        Files.deleteIfExists(classes.resolve("Example.class"));
        Files.deleteIfExists(classes);
    }

    private static void fail(String fault) {
        System.out.println(fault);
        System.exit(1);
    }
}
