import java.io.IOException;
import java.lang.reflect.InvocationTargetException;
import java.lang.reflect.Method;
import java.nio.file.Files;
import java.nio.file.Path;
import java.util.ArrayList;
import java.util.Comparator;
import java.util.List;
import java.util.TreeMap;

/**
 * Runs the tests of single sentences. Each one names its words in the document; the words must stand there once,
 * and all words of the terms and of the promises must be named by some test.
 */
public final class BoundariesTest {
    private static final Path DOCUMENT = Path.of("..", "shared", "DOC.md");
    private static final Class<?>[] TESTS = {TongueBounds.class, LawBounds.class, TalkBounds.class, HoldBounds.class,
        TurnBounds.class, ChanceBounds.class, RefusedBounds.class};

    public static void main(String[] args) throws IOException, IllegalAccessException, InvocationTargetException {
        Tester test = new Tester("BoundariesTest");
        List<Method> tests = testsInOrder();
        for (Method one : tests) {
            test.begin("promise " + one.getAnnotation(Says.class).of() + ", " + one.getName());
            one.invoke(null, test);
        }
        test.begin("the document");
        if (Files.exists(DOCUMENT)) {
            checkWords(test, tests, sections(Files.readString(DOCUMENT)));
        }
        System.out.println("BoundariesTest: " + tests.size() + " sentences");
        test.end();
    }

    private static List<Method> testsInOrder() {
        List<Method> tests = new ArrayList<>();
        for (Class<?> one : TESTS) {
            for (Method method : one.getDeclaredMethods()) {
                if (method.isAnnotationPresent(Says.class)) {
                    tests.add(method);
                }
            }
        }
        tests.sort(Comparator.comparing((Method m) -> m.getAnnotation(Says.class).of()).thenComparing(Method::getName));
        return tests;
    }

    /** The text of each promise by its number, of the terms by 0, of what the class is by -1; blanks made one. */
    private static TreeMap<Integer, String> sections(String document) {
        TreeMap<Integer, String> sections = new TreeMap<>();
        for (String part : document.split("\n## ")) {
            int end = part.indexOf('\n');
            String title = end < 0 ? part : part.substring(0, end);
            String text = end < 0 ? "" : part.substring(end).replace("```text", " ").replace("```", " ");
            text = text.replaceAll("==== \\d\\.", " ").replaceAll("\\s+", " ");
            if (title.equals("Terms")) {
                sections.put(0, text);
            } else if (title.equals("What it is")) {
                sections.put(-1, text);
            } else if (title.startsWith("Promise ")) {
                int number = Integer.parseInt(title.substring(8, title.indexOf(':')));
                sections.put(number, text.replaceFirst("`[^`]*`: ", " "));
            }
        }
        return sections;
    }

    private static void checkWords(Tester test, List<Method> tests, TreeMap<Integer, String> sections) {
        TreeMap<Integer, boolean[]> named = new TreeMap<>();
        for (int number : sections.keySet()) {
            named.put(number, new boolean[sections.get(number).length()]);
        }
        for (Method one : tests) {
            Says says = one.getAnnotation(Says.class);
            String text = sections.getOrDefault(says.of(), "");
            int from = text.indexOf(says.words());
            boolean once = from >= 0 && text.indexOf(says.words(), from + 1) < 0;
            test.due("stands there once: " + says.words(), once, true);
            for (int i = from; once && i < from + says.words().length(); i++) {
                named.get(says.of())[i] = true;
            }
        }
        for (int number : sections.keySet()) {
            if (number >= 0) {
                test.due("promise " + number + ", no test for: " + unnamed(sections.get(number), named.get(number)),
                        unnamed(sections.get(number), named.get(number)).isEmpty(), true);
            }
        }
    }

    /** Words that no test names, the rest as gaps; nothing if these are signs only. */
    private static String unnamed(String text, boolean[] named) {
        StringBuilder left = new StringBuilder();
        for (int i = 0; i < text.length(); i++) {
            left.append(named[i] ? '_' : text.charAt(i));
        }
        String words = left.toString().replaceAll("_[_ ]*", " .. ").replace("The constants:", "");
        return words.replaceAll("[^A-Za-z0-9]", "").isEmpty() ? "" : words.strip();
    }
}
