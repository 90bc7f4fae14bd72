import java.lang.reflect.InvocationTargetException;
import java.lang.reflect.Method;
import java.util.Arrays;
import java.util.Comparator;
import java.util.List;

/**
 * Runs the tests of single sentences, each of which bears its sentence. It fails, too, if the document doesn't say
 * what a test bears, or says something that no test bears.
 */
public final class EdgesTest {
    private static final List<Class<?>> GROUPS = List.of(TermsEdges.class, ChangeEdges.class, AnswerEdges.class, TextEdges.class);

    private EdgesTest() {
    }

    public static void main(String[] args) throws Exception {
        Doc doc = new Doc();
        int tests = 0;
        for (Class<?> group : GROUPS) {
            Method[] methods = group.getDeclaredMethods();
            Arrays.sort(methods, Comparator.comparing(Method::getName));
            for (Method method : methods) {
                Sentence sentence = method.getAnnotation(Sentence.class);
                if (sentence != null) {
                    Check.holds("the document has in " + sentence.of() + ": " + sentence.says(),
                            doc.quote(sentence.of(), sentence.says()));
                    run(method, sentence);
                    tests++;
                }
            }
        }
        for (String rest : doc.unquoted()) {
            Check.holds("a test is about " + rest, false);
        }
        System.out.println(tests + " sentences");
        Check.end();
    }

    private static void run(Method method, Sentence sentence) throws IllegalAccessException {
        int asked = Check.asked();
        Edges.name(sentence.of() + ", " + method.getName() + ": ");
        try {
            method.invoke(null);
        } catch (InvocationTargetException e) {
            Edges.holds("ends without " + e.getCause(), false);
        }
        Edges.holds("asks something", Check.asked() > asked);
    }
}
