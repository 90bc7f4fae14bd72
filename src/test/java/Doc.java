import java.io.IOException;
import java.nio.file.Files;
import java.nio.file.Path;
import java.util.ArrayList;
import java.util.BitSet;
import java.util.LinkedHashMap;
import java.util.List;
import java.util.Map;
import java.util.regex.Matcher;
import java.util.regex.Pattern;

/** The document by sections, and what of it the tests quote. */
final class Doc {
    private static final Path PLACE = Path.of("../shared/DOC.md");
    /** The sections that promise nothing that is not said elsewhere. */
    private static final List<String> UNTESTED = List.of("ParrotSongs", "What it is", "The public face", "Not promised");
    /** A heading of the section "Terms" that is not marked as one. */
    private static final String BARE_HEADING = "Songs, parrots";

    private final Map<String, String> sections = new LinkedHashMap<>();
    private final Map<String, BitSet> quoted = new LinkedHashMap<>();

    Doc() throws IOException {
        if (!Files.exists(PLACE)) {
            System.out.println("no " + PLACE + ": what the tests quote is not compared with it");
            return;
        }
        String name = "";
        for (String line : Files.readAllLines(PLACE)) {
            if (line.startsWith("#") || line.equals(BARE_HEADING)) {
                name = line.replaceAll("^#+ ", "").replaceAll(":.*", "");
            } else {
                sections.merge(name, line, (text, more) -> text + " " + more);
            }
        }
        sections.replaceAll((section, text) -> plain(text));
        sections.keySet().forEach(section -> quoted.put(section, new BitSet()));
    }

    private static String plain(String text) {
        return text.replaceAll("\\s+", " ").trim();
    }

    /** Notes that a test is about these words, and tells whether they stand in the section. */
    boolean quote(String section, String words) {
        if (sections.isEmpty()) {
            return true;
        }
        int at = sections.getOrDefault(section, "").indexOf(plain(words));
        if (at < 0) {
            return false;
        }
        quoted.get(section).set(at, at + plain(words).length());
        return true;
    }

    /** Returns what no test is about, signatures aside. */
    List<String> unquoted() {
        List<String> rest = new ArrayList<>();
        sections.forEach((section, text) -> {
            if (!UNTESTED.contains(section)) {
                restOf(section, text, rest);
            }
        });
        return rest;
    }

    private void restOf(String section, String text, List<String> rest) {
        StringBuilder left = new StringBuilder(text);
        quoted.get(section).stream().forEach(i -> left.setCharAt(i, '\n'));
        Matcher signature = Pattern.compile("`(int |ParrotSongs\\()[^`]*`:").matcher(text);
        while (signature.find()) {
            for (int i = signature.start(); i < signature.end(); i++) {
                left.setCharAt(i, '\n');
            }
        }
        for (String part : left.toString().split("\n+")) {
            if (part.matches(".*[A-Za-z0-9].*")) {
                rest.add(section + ": " + part.trim());
            }
        }
    }
}
