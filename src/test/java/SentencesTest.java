import java.lang.reflect.InvocationTargetException;
import java.lang.reflect.Method;
import java.nio.file.Path;
import java.util.Arrays;
import java.util.Comparator;

/**
 * Runs the test of each sentence (every method that bears Says), and looks whether the words that
 * it stands for are the document's, and whether all words of Terms and of the promises have one.
 */
public final class SentencesTest {
    private static final Class<?>[] TESTS = {TermsSentences.class, KindsSentences.class,
        SignsSentences.class, TableSentences.class, AnswersSentences.class};
    private static final int PROMISES = 10;

    public static void main(String[] args) throws Exception {
        Document document = new Document(Path.of("..", "shared", "DOC.md"));
        Check whole = new Check("SentencesTest");
        for (Class<?> tests : TESTS) {
            Method[] methods = tests.getDeclaredMethods();
            Arrays.sort(methods, Comparator.comparing(Method::getName));
            for (Method method : methods) {
                Says says = method.getAnnotation(Says.class);
                if (says != null) {
                    whole.due("'" + says.words() + "' under " + says.in(),
                            document.quote(says.in(), says.words()), true);
                    whole.due(nameOf(method) + " holds", holds(method, says), true);
                }
            }
        }
        allIsQuoted(whole, document);
        whole.finish();
    }

    private static String nameOf(Method method) {
        return method.getDeclaringClass().getName() + "." + method.getName();
    }

    private static boolean holds(Method method, Says says) throws IllegalAccessException {
        Check check = new Check(nameOf(method) + " (" + says.in() + ": '" + says.words() + "')");
        try {
            method.invoke(null, check);
        } catch (InvocationTargetException thrown) {
            System.out.println(nameOf(method) + " threw " + thrown.getCause());
            return false;
        }
        return check.isAsDue();
    }

    private static void allIsQuoted(Check whole, Document document) {
        String left = document.unquoted("Terms");
        whole.due("Terms, without a test: '" + left + "'", left.isEmpty(), true);
        for (int promise = 1; promise <= PROMISES; promise++) {
            left = document.unquoted("Promise " + promise);
            whole.due("Promise " + promise + ", without a test: '" + left + "'",
                    left.isEmpty(), true);
        }
    }
}
