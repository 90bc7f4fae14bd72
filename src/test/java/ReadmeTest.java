import java.lang.reflect.Method;
import java.lang.reflect.Modifier;
import java.nio.file.Files;
import java.nio.file.Path;
import java.util.ArrayList;
import java.util.LinkedHashMap;
import java.util.List;
import java.util.Map;
import java.util.TreeSet;
import java.util.regex.Matcher;
import java.util.regex.Pattern;

/** README.md against the class and the document. Runs in the project's directory. */
public final class ReadmeTest {
    private static final Path PAGE = Path.of("README.md");
    private static final Path DOC = Path.of("../shared/DOC.md");
    private static final Path SELF = Path.of("src/test/java/ReadmeTest.java");
    private static final Path TESTS = Path.of("src/test/java");
    private static final Pattern EXAMPLE = Pattern.compile("house\\.(\\w+)\\(([^)]*)\\); *// (-?\\d+)\\b.*");
    private static final Pattern ROW = Pattern.compile("\\| `(\\w+)\\(([^)]*)\\)` \\|(.*)\\|(.*)\\|");
    private static final Pattern SIGNATURE = Pattern.compile("`int (\\w+)\\(([^)]*)\\)`.*");
    private static final Pattern ERROR = Pattern.compile("\\b(NO_SUCH|BAD_VALUE|BAD_TEXT|TOO_MANY|NOT_POSSIBLE)\\b");

    private ReadmeTest() {
    }

    public static void main(String[] args) throws Exception {
        String page = Files.readString(PAGE);
        List<List<String>> blocks = blocks(page);
        Check.due("the blocks of code", blocks.size(), 2);
        if (blocks.size() == 2) {
            examples(blocks.get(0));
            helper(blocks.get(1));
        }
        constants(page);
        table(page);
        tests(page);
        Check.holds("the page says for how many calls", page.contains("at most 512 calls"));
        Check.end();
    }

    /** Runs the first block: each line that has an answer behind it answers that. */
    private static void examples(List<String> lines) throws Exception {
        ParrotSongs house = new ParrotSongs();
        Check.due("the first line", lines.get(0), "ParrotSongs house = new ParrotSongs();");
        for (String line : lines.subList(1, lines.size())) {
            Matcher example = EXAMPLE.matcher(line);
            Check.holds("an example, and its answer: " + line, example.matches());
            if (example.matches()) {
                Check.due(line, call(house, example.group(1), example.group(2)), Integer.parseInt(example.group(3)));
            }
        }
    }

    private static List<List<String>> blocks(String page) {
        List<List<String>> blocks = new ArrayList<>();
        Matcher block = Pattern.compile("```java\n(.*?)```", Pattern.DOTALL).matcher(page);
        while (block.find()) {
            blocks.add(block.group(1).lines().toList());
        }
        return blocks;
    }

    private static int call(ParrotSongs house, String name, String arguments) throws Exception {
        String[] words = arguments.isEmpty() ? new String[0] : arguments.split(", ");
        for (Method method : ParrotSongs.class.getMethods()) {
            if (method.getName().equals(name) && method.getParameterCount() == words.length) {
                Object[] values = new Object[words.length];
                for (int i = 0; i < words.length; i++) {
                    values[i] = method.getParameterTypes()[i] == long.class ? (Object) number(words[i]) : (int) number(words[i]);
                }
                return (Integer) method.invoke(house, values);
            }
        }
        throw new IllegalArgumentException("no method " + name + " with so many arguments: " + arguments);
    }

    private static long number(String word) throws Exception {
        if (word.startsWith("ParrotSongs.")) {
            return ParrotSongs.class.getField(word.substring("ParrotSongs.".length())).getInt(null);
        }
        return Long.decode(word.replaceAll("L$", ""));
    }

    /** The page's helper is the one that stands here, and it writes texts of all lengths. */
    private static void helper(List<String> lines) throws Exception {
        String here = Files.readString(SELF).replaceAll("\\s+", " ");
        String there = String.join(" ", lines).replaceAll("\\s+", " ");
        Check.holds("the helper stands in the test: " + there, here.contains(there));
        for (int bars = 1; bars <= 20; bars++) {
            ParrotSongs house = new ParrotSongs();
            write(house, "S" + "abcdefghijklmnopqrst".substring(0, bars) + ";B;N");
            Check.due("the length", house.count(12), bars + 5);
            Check.due("the orders", house.carryOut(), 3);
            for (int i = 0; i < bars; i++) {
                Check.due("the bar " + i, house.bar(0, i), i);
            }
        }
    }

    static void write(ParrotSongs house, String text) {
        for (int i = 0; i < text.length(); i += 8) {
            long number = 0;
            for (int j = i; j < text.length() && j < i + 8; j++) {
                number = number << 8 | text.charAt(j);
            }
            house.put(number);
        }
    }

    private static void constants(String page) throws Exception {
        String words = page.replace("**", "").replaceAll("\\s+", " ");
        for (String name : "NO_SUCH BAD_VALUE BAD_TEXT TOO_MANY NOT_POSSIBLE NONE SPAN FADE GAIN TIRE".split(" ")) {
            int value = ParrotSongs.class.getField(name).getInt(null);
            Check.holds("the page says `" + name + "` (" + value + ")", words.contains("`" + name + "` (" + value + ")"));
        }
    }

    /** Each method of the class has its row, with the document's parameters, errors and NONE. */
    private static void table(String page) throws Exception {
        Map<String, String> due = promises();
        Map<String, String> rows = new LinkedHashMap<>();
        for (String line : page.lines().toList()) {
            Matcher row = ROW.matcher(line);
            if (row.matches()) {
                rows.put(row.group(1), told(row.group(2), errors(row.group(4)), row.group(3).contains("NONE")));
            }
        }
        TreeSet<String> face = new TreeSet<>();
        for (Method method : ParrotSongs.class.getDeclaredMethods()) {
            if (Modifier.isPublic(method.getModifiers())) {
                face.add(method.getName());
            }
        }
        Check.due("the rows", new TreeSet<>(rows.keySet()).toString(), face.toString());
        if (!due.isEmpty()) {
            Check.due("the rows, in their order", rows.keySet().toString(), due.keySet().toString());
            rows.forEach((name, row) -> Check.due("the row of " + name, row, due.getOrDefault(name, "")));
        }
    }

    private static String told(String parameters, List<String> errors, boolean none) {
        return "(" + parameters + ") " + errors + (none ? " or NONE" : "");
    }

    private static List<String> errors(String text) {
        List<String> errors = new ArrayList<>();
        Matcher error = ERROR.matcher(text);
        while (error.find()) {
            errors.add(error.group(1));
        }
        return errors;
    }

    /** What the document promises of each method: its parameters, its errors in their order, and whether there is NONE. */
    private static Map<String, String> promises() throws Exception {
        Map<String, String> promises = new LinkedHashMap<>();
        if (!Files.exists(DOC)) {
            System.out.println("no " + DOC + ": the page is not compared with it");
            return promises;
        }
        for (String section : Files.readString(DOC).split("\n## ")) {
            String[] lines = section.split("\n");
            for (String line : lines) {
                Matcher signature = SIGNATURE.matcher(line);
                if (lines[0].startsWith("Promise ") && signature.matches()) {
                    String parameters = signature.group(2).replaceAll("\\b(int|long) ", "");
                    promises.put(signature.group(1), told(parameters, errors(section), section.contains("NONE")));
                }
            }
        }
        return promises;
    }

    /** Each test that .ci/run runs is named on the page. */
    private static void tests(String page) throws Exception {
        try (var files = Files.list(TESTS)) {
            for (Path file : files.toList()) {
                String name = file.getFileName().toString().replaceAll("\\.java$", "");
                Check.holds("the page names " + name, !name.endsWith("Test") || page.contains("- `" + name + "`:"));
            }
        }
        Check.holds("the page says how to run them", page.contains("```sh\n.ci/run\n```"));
    }
}
