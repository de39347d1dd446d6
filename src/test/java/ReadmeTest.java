import java.io.IOException;
import java.lang.reflect.Method;
import java.lang.reflect.Modifier;
import java.nio.file.DirectoryStream;
import java.nio.file.Files;
import java.nio.file.Path;
import java.util.List;

/** The calls that README.md shows compile, and answer what it says; it shows the whole face. */
public final class ReadmeTest {
    private static final Check CHECK = new Check("ReadmeTest");
    private static final int MOST_CALLS = 512;

    public static void main(String[] args) throws Exception {
        String readme = Files.readString(Path.of("README.md"));
        callsAnswerWhatIsSaid(readme);
        theWholeFaceIsShown(readme);
        allTestsAreNamed(readme);
        faultsAreSeen();
        CHECK.finish();
    }

    private static void callsAnswerWhatIsSaid(String readme) throws Exception {
        Shown shown = new Shown(readme);
        CHECK.due("lines without an answer: " + shown.strange(), shown.strange().size(), 0);
        CHECK.due("there are calls", shown.calls().isEmpty(), false);
        CHECK.due("no more calls than an object is good for",
                shown.calls().size() <= MOST_CALLS, true);
        List<String> answers = shown.answers();
        for (int at = 0; at < shown.calls().size(); at++) {
            Shown.Call call = shown.calls().get(at);
            CHECK.due(call.words() + ": README.md says " + call.said() + ", the class "
                    + answers.get(at) + "; that they agree", isAsSaid(call, answers.get(at)), true);
        }
    }

    private static boolean isAsSaid(Shown.Call call, String answer) {
        String said = call.said();
        return answer.equals(said.equals("NONE") ? String.valueOf(BasisWalk.NONE) : said);
    }

    private static void theWholeFaceIsShown(String readme) {
        List<Shown.Call> calls = new Shown(readme).calls();
        for (Method method : BasisWalk.class.getDeclaredMethods()) {
            if (Modifier.isPublic(method.getModifiers())) {
                String start = "walk." + method.getName() + "(";
                CHECK.due(start + " is shown",
                        calls.stream().anyMatch(call -> call.words().startsWith(start)), true);
            }
        }
        CHECK.due("NONE is shown",
                calls.stream().anyMatch(call -> call.said().equals("NONE")), true);
    }

    private static void allTestsAreNamed(String readme) throws IOException {
        CHECK.due("README.md names .ci/run", readme.contains("\n.ci/run\n"), true);
        Path tests = Path.of("src", "test", "java");
        try (DirectoryStream<Path> files = Files.newDirectoryStream(tests, "*Test.java")) {
            for (Path file : files) {
                String name = file.getFileName().toString().replace(".java", "");
                CHECK.due("README.md names " + name, readme.contains(name), true);
            }
        }
    }

    /** A test that no README.md could fail would show nothing. */
    private static void faultsAreSeen() throws Exception {
        Shown right = shownOf("walk.columns(0); // 0", "walk.columns(4);  // NONE: no table 4");
        CHECK.due("calls of a right text", right.calls().size(), 2);
        CHECK.due("strange lines of a right text", right.strange().size(), 0);
        CHECK.due("the first is as said", isAsSaid(right.calls().get(0), right.answers().get(0)), true);
        CHECK.due("the second too", isAsSaid(right.calls().get(1), right.answers().get(1)), true);

        Shown wrong = shownOf("walk.columns(0); // 1: not so", "walk.begin(0, 0, 0, 0); // false");
        CHECK.due("a wrong number is seen", isAsSaid(wrong.calls().get(0), wrong.answers().get(0)), false);
        CHECK.due("a wrong false is seen", isAsSaid(wrong.calls().get(1), wrong.answers().get(1)), false);

        CHECK.due("no answer", shownOf("walk.columns(0);").strange().size(), 1);
        CHECK.due("words only", shownOf("walk.columns(0); // none yet").strange().size(), 1);
        CHECK.due("no such method", compiles(shownOf("walk.row(0); // 0")), false);
        CHECK.due("too few arguments", compiles(shownOf("walk.rank(0); // 0")), false);
        CHECK.due("no object", compiles(new Shown("```java\nwalk.columns(0); // 0\n```")), false);
        CHECK.due("outside of java blocks", new Shown("```sh\nwalk.columns(0); // 0\n```\n"
                + "walk.columns(0); // 0").calls().size(), 0);
    }

    private static Shown shownOf(String... lines) {
        return new Shown("```java\nBasisWalk walk = new BasisWalk();\n"
                + String.join("\n", lines) + "\n```\n");
    }

    private static boolean compiles(Shown shown) throws Exception {
        try {
            shown.answers();
            return true;
        } catch (IllegalStateException complaint) {
            return false;
        }
    }
}
