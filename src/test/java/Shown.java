import java.io.ByteArrayOutputStream;
import java.io.IOException;
import java.net.URL;
import java.net.URLClassLoader;
import java.nio.file.Files;
import java.nio.file.Path;
import java.util.ArrayList;
import java.util.List;
import java.util.regex.Matcher;
import java.util.regex.Pattern;
import javax.tools.JavaCompiler;
import javax.tools.ToolProvider;

/**
 * The java blocks of a text like README.md, joined to one program, and what it says that its calls
 * answer: the word behind a call's slashes, before the colon.
 */
final class Shown {
    record Call(String words, String said) {
    }

    private static final Pattern MAKING =
            Pattern.compile("BasisWalk walk = new BasisWalk\\(\\);\\s*(//.*)?");
    private static final Pattern CALL =
            Pattern.compile("(walk\\..*);\\s*// (true|false|NONE|-?\\d+)(:.*)?");
    private static final String PROGRAM = "ShownProgram";

    private final List<Call> calls = new ArrayList<>();
    private final List<String> strange = new ArrayList<>();
    private final StringBuilder body = new StringBuilder();

    Shown(String text) {
        boolean inside = false;
        for (String line : text.split("\\R")) {
            if (line.startsWith("```")) {
                inside = line.equals("```java");
            } else if (inside && !line.isBlank()) {
                take(line.strip());
            }
        }
    }

    private void take(String line) {
        Matcher call = CALL.matcher(line);
        if (call.matches()) {
            calls.add(new Call(call.group(1), call.group(2)));
            body.append("answers.add(").append(call.group(1)).append(");\n");
        } else if (MAKING.matcher(line).matches()) {
            body.append(line).append('\n');
        } else {
            strange.add(line);
        }
    }

    List<Call> calls() {
        return calls;
    }

    /** Lines that are neither the making of the object nor a call with its answer behind it. */
    List<String> strange() {
        return strange;
    }

    /** What the calls answer, in their order; throws if they do not compile. */
    List<String> answers() throws IOException, ReflectiveOperationException {
        Path place = Files.createTempDirectory("shown");
        Path source = place.resolve(PROGRAM + ".java");
        try {
            Files.writeString(source, "public final class " + PROGRAM + " {\n"
                    + "public static java.util.List<Object> answers() {\n"
                    + "java.util.List<Object> answers = new java.util.ArrayList<>();\n"
                    + body + "return answers;\n}\n}\n");
            compile(source, place);
            return run(place);
        } finally {
            Files.deleteIfExists(place.resolve(PROGRAM + ".class"));
            Files.deleteIfExists(source);
            Files.deleteIfExists(place);
        }
    }

    private static void compile(Path source, Path place) {
        JavaCompiler compiler = ToolProvider.getSystemJavaCompiler();
        if (compiler == null) {
            throw new IllegalStateException("this java has no compiler: a JDK is needed");
        }
        ByteArrayOutputStream complaints = new ByteArrayOutputStream();
        int code = compiler.run(null, complaints, complaints, "-cp",
                System.getProperty("java.class.path"), "-d", place.toString(), source.toString());
        if (code != 0) {
            throw new IllegalStateException("the calls do not compile:\n" + complaints);
        }
    }

    private static List<String> run(Path place) throws IOException, ReflectiveOperationException {
        URL[] where = {place.toUri().toURL()};
        List<String> answers = new ArrayList<>();
        try (URLClassLoader loader = new URLClassLoader(where, Shown.class.getClassLoader())) {
            Class<?> program = loader.loadClass(PROGRAM);
            for (Object answer : (List<?>) program.getMethod("answers").invoke(null)) {
                answers.add(answer.toString());
            }
        }
        return answers;
    }
}
