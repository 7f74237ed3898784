import java.io.IOException;
import java.lang.reflect.InvocationTargetException;
import java.lang.reflect.Method;
import java.lang.reflect.Modifier;
import java.net.URI;
import java.net.URL;
import java.net.URLClassLoader;
import java.nio.file.Files;
import java.nio.file.Path;
import java.util.ArrayList;
import java.util.List;
import java.util.TreeSet;
import java.util.regex.Matcher;
import java.util.regex.Pattern;
import javax.tools.DiagnosticCollector;
import javax.tools.JavaCompiler;
import javax.tools.JavaFileObject;
import javax.tools.SimpleJavaFileObject;
import javax.tools.ToolProvider;

/** Compiles the java parts of README.md, one behind the other, and holds each call against the answer behind it. */
public final class ReadmeTests {
    private static final Pattern TOLD = Pattern.compile("(\\w+\\(.*\\)|sums\\.\\w+\\(.*\\)); +// (-?\\d+|true|false|NoSuchElementException)\\b.*");
    private static final Pattern CALL = Pattern.compile("sums\\.(\\w+)\\(");

    private ReadmeTests() {
    }

    public static void main(String[] args) throws IOException, ReflectiveOperationException {
        Path readme = Path.of(System.getProperty("readme", "README.md"));
        StringBuilder functions = new StringBuilder();
        StringBuilder statements = new StringBuilder();
        TreeSet<String> shown = new TreeSet<>();
        split(Files.readAllLines(readme), functions, statements, shown);
        run("public class Shown {\n" + functions + "public static void main(String[] args) {\n" + statements + "}\n}\n");
        for (Method method : TurningSums.class.getDeclaredMethods()) {
            if (Modifier.isPublic(method.getModifiers())) {
                Due.is("README.md shows " + method.getName(), shown.contains(method.getName()), true);
            }
        }
        Due.end();
    }

    /** The compiled page lies behind a loader of its own, to which Due is closed. */
    public static void is(String what, long got, long due) {
        Due.is(what, got, due);
    }

    public static void is(String what, boolean got, boolean due) {
        Due.is(what, got, due);
    }

    private static void split(List<String> lines, StringBuilder functions, StringBuilder statements, TreeSet<String> shown) {
        boolean inside = false;
        boolean inFunction = false;
        int number = 0;
        for (String line : lines) {
            number++;
            if (line.startsWith("```")) {
                inside = line.equals("```java");
                continue;
            }
            if (!inside) {
                continue;
            }
            Matcher call = CALL.matcher(line);
            while (call.find()) {
                shown.add(call.group(1));
            }
            inFunction = inFunction || line.startsWith("static ");
            if (inFunction) {
                functions.append(line).append('\n');
                inFunction = !line.equals("}");
            } else {
                statements.append(held(line, number)).append('\n');
            }
        }
    }

    /** A line of the page, a call with an answer made into one that holds the one against the other. */
    private static String held(String line, int number) {
        Matcher told = TOLD.matcher(line);
        if (!told.matches()) {
            Due.is("README.md, line " + number + " has an answer that can't be read: " + line, line.contains("//"), false);
            return line;
        }
        String what = "\"README.md, line " + number + "\"";
        String answer = told.group(2);
        if (answer.equals("NoSuchElementException")) {
            return "try { " + told.group(1) + "; ReadmeTests.is(" + what + ", true, false); } catch (java.util." + answer + " none) { ReadmeTests.is(" + what + ", 1, 1); }";
        }
        return "ReadmeTests.is(" + what + ", " + told.group(1) + ", " + answer + ");";
    }

    private static final class Text extends SimpleJavaFileObject {
        private final String text;

        Text(String text) {
            super(URI.create("string:///Shown.java"), Kind.SOURCE);
            this.text = text;
        }

        @Override
        public CharSequence getCharContent(boolean ignored) {
            return text;
        }
    }

    private static void run(String program) throws IOException, ReflectiveOperationException {
        JavaCompiler compiler = ToolProvider.getSystemJavaCompiler();
        Path out = Files.createTempDirectory("readme");
        DiagnosticCollector<JavaFileObject> said = new DiagnosticCollector<>();
        List<String> options = List.of("-proc:none", "-d", out.toString(), "-cp", System.getProperty("java.class.path"));
        boolean compiled = compiler.getTask(null, null, said, options, null, List.of(new Text(program))).call();
        Due.is("the java parts of README.md compile " + said.getDiagnostics(), compiled, true);
        if (compiled) {
            try (URLClassLoader loader = new URLClassLoader(new URL[] {out.toUri().toURL()}, ReadmeTests.class.getClassLoader())) {
                loader.loadClass("Shown").getMethod("main", String[].class).invoke(null, (Object) new String[0]);
            } catch (InvocationTargetException thrown) {
                Due.is("README.md throws " + thrown.getCause(), true, false);
            }
        }
        for (Path file : new ArrayList<>(Files.list(out).toList())) {
            Files.delete(file);
        }
        Files.delete(out);
    }
}
