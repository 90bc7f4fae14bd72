import java.lang.management.ManagementFactory;
import java.lang.reflect.Constructor;
import java.lang.reflect.Field;
import java.lang.reflect.Method;
import java.lang.reflect.Modifier;
import java.nio.file.Files;
import java.nio.file.Path;
import java.util.ArrayList;
import java.util.List;
import java.util.TreeSet;
import java.util.regex.Pattern;

/** The rules of ../shared/LANGUAGE.md, as far as a program can look after them. Runs in the project's directory. */
public final class LanguageTest {
    private static final Path SOURCE = Path.of("src/main/java/ParrotSongs.java");
    private static final String[] FACE = {
        "bar(int,int)", "bestLesson(int,int)", "carryOut()", "count(int)", "fault()", "follows(int,int)", "hush(int)",
        "keeps(int,int)", "knows(int,int)", "lesson(int,int,int)", "lessonsFor(int,int)", "link(int,int,int)",
        "mistake(int,int,int)", "night()", "of(int,int)", "ofSong(int,int)", "parrot()", "practise(int,int)", "put(long)",
        "restore(int)", "rhymes(int,int)", "save(int)", "set(int,int)", "sings(int,int,int)", "undo()", "wipe()"};
    private static final String[] CONSTANTS = {
        "NO_SUCH -1", "BAD_VALUE -2", "BAD_TEXT -3", "TOO_MANY -4", "NOT_POSSIBLE -5", "NONE -6",
        "SPAN 0", "FADE 1", "GAIN 2", "TIRE 3"};
    private static final String[] FORBIDDEN = {
        "\\bthrow", "\\btry\\b", "\\bcatch\\b", "\\bsynchronized\\b", "\\bassert\\b", "\\bimport\\b", "\\bpackage\\b", "->",
        "::", "\\binstanceof\\b", "\\bstatic \\{", "\\bhashCode\\b", "\\btoString\\b", "\\bequals\\b", "\\bpublic static (?!final)",
        "\\bprotected\\b", "Exact\\b", "\\bRandom\\b", "currentTime", "nanoTime", "\\bSystem\\.(?!arraycopy)", "\\bThread\\b",
        "\\bClass\\b", "\\bgetClass\\b", "\\bwhile \\(true\\)", "\\bfor \\(;;\\)", "\""};
    private static final int MOST_LINES = 60, MOST_CLASSES = 12, MOST_FIELDS = 20;

    private LanguageTest() {
    }

    public static void main(String[] args) throws Exception {
        face();
        constants();
        classes();
        words();
        shortMethods();
        room();
        Check.end();
    }

    private static String signature(Method method) {
        List<String> types = new ArrayList<>();
        for (Class<?> type : method.getParameterTypes()) {
            types.add(type.getName());
        }
        return method.getName() + "(" + String.join(",", types) + ")";
    }

    private static void face() {
        TreeSet<String> found = new TreeSet<>();
        for (Method method : ParrotSongs.class.getDeclaredMethods()) {
            if (Modifier.isPublic(method.getModifiers())) {
                found.add(signature(method));
                Check.holds(method + " is int, and of an object",
                        method.getReturnType() == int.class && !Modifier.isStatic(method.getModifiers()));
            } else {
                Check.holds(method + " is private", Modifier.isPrivate(method.getModifiers()));
            }
        }
        Check.holds("the face is " + found, found.equals(new TreeSet<>(List.of(FACE))));
        Constructor<?>[] constructors = ParrotSongs.class.getDeclaredConstructors();
        Check.holds("one public constructor without arguments", constructors.length == 1
                && constructors[0].getParameterCount() == 0 && Modifier.isPublic(constructors[0].getModifiers()));
        Check.holds("final", Modifier.isFinal(ParrotSongs.class.getModifiers()));
    }

    private static void constants() throws Exception {
        TreeSet<String> found = new TreeSet<>();
        for (Field field : ParrotSongs.class.getDeclaredFields()) {
            int modifiers = field.getModifiers();
            if (Modifier.isPublic(modifiers)) {
                found.add(field.getName() + " " + field.getInt(null));
                Check.holds(field + " is static", Modifier.isStatic(modifiers));
            } else {
                Check.holds(field + " is private", Modifier.isPrivate(modifiers));
            }
            Check.holds(field + " is final, if static", !Modifier.isStatic(modifiers) || Modifier.isFinal(modifiers));
        }
        Check.holds("the constants are " + found, found.equals(new TreeSet<>(List.of(CONSTANTS))));
    }

    private static void classes() {
        Class<?>[] inside = ParrotSongs.class.getDeclaredClasses();
        Check.holds("few classes", inside.length < MOST_CLASSES);
        for (Class<?> each : inside) {
            int fields = 0;
            for (Field field : each.getDeclaredFields()) {
                boolean ofClass = Modifier.isStatic(field.getModifiers());
                Check.holds(field + " is final, if static", !ofClass || Modifier.isFinal(field.getModifiers()));
                fields += ofClass ? 0 : 1;
            }
            Check.holds(each + " is static and private", Modifier.isStatic(each.getModifiers())
                    && Modifier.isPrivate(each.getModifiers()));
            Check.holds(each + " has few fields", fields <= MOST_FIELDS);
            for (Method method : each.getDeclaredMethods()) {
                Check.holds(method + " has a name of its own", !List.of(FACE).toString().contains(" " + method.getName() + "("));
                Check.holds(method + " has few parameters", method.getParameterCount() <= 7);
            }
        }
    }

    private static String code() throws Exception {
        return Files.readString(SOURCE).replaceAll("(?s)/\\*.*?\\*/", "").replaceAll("//[^\n]*", "");
    }

    private static void words() throws Exception {
        String code = code();
        for (String word : FORBIDDEN) {
            Check.holds("no " + word, !Pattern.compile(word).matcher(code).find());
        }
        for (char sign : Files.readString(SOURCE).toCharArray()) {
            if (sign > 126) {
                Check.holds("no sign " + (int) sign, false);
            }
        }
    }

    private static void shortMethods() throws Exception {
        int lines = 0;
        for (String line : Files.readString(SOURCE).split("\n")) {
            lines = line.isBlank() ? 0 : lines + 1;
            Check.holds("few lines up to " + line, lines <= MOST_LINES);
        }
    }

    /** Rows are made by the constructor alone: a run of 512 calls makes no object. */
    private static void room() {
        var threads = (com.sun.management.ThreadMXBean) ManagementFactory.getThreadMXBean();
        long text = Check.packed("Sab;B;N");
        long start = threads.getCurrentThreadAllocatedBytes();
        ParrotSongs x = new ParrotSongs();
        long made = threads.getCurrentThreadAllocatedBytes();
        for (int i = 0; i < 32; i++) {
            x.put(text);
            x.carryOut();
            x.lesson(0, 0, 0);
            x.practise(0, 40);
            x.lessonsFor(0, 0);
            x.bestLesson(0, 0);
            x.keeps(0, 0);
            x.mistake(0, 0, 2);
            x.fault();
            x.save(0);
            x.restore(0);
            x.undo();
            x.hush(0);
            x.set(0, 60);
            x.follows(0, 0);
            x.ofSong(0, 5);
        }
        long ran = threads.getCurrentThreadAllocatedBytes();
        Check.holds("a new object takes " + (made - start) + " bytes", made - start < 200_000);
        Check.holds("512 calls take " + (ran - made) + " bytes", ran - made < 10_000);
    }
}
