import java.util.ArrayDeque;
import java.util.ArrayList;
import java.util.Arrays;
import java.util.Collections;
import java.util.LinkedHashMap;
import java.util.List;
import java.util.Map;
import java.util.regex.Matcher;
import java.util.regex.Pattern;

/** The document told a second time, in texts and maps instead of rows: what RandomRunsTest compares with. */
final class PlainModel {
    static final int NO_SUCH = -1, BAD_VALUE = -2, BAD_TEXT = -3, TOO_MANY = -4, NOT_POSSIBLE = -5, NONE = -6;

    private static final String NUMBER = "(?:0|[1-9][0-9]?)";
    private static final String ORDER = "(?:S[a-z]{1,20}|B|N|L[0-9]\\.[0-9](?:/" + NUMBER + ")?|H[0-9]|P[0-9]\\*" + NUMBER + ")";
    private static final Pattern TEXT = Pattern.compile(ORDER + "(?:;" + ORDER + ")*");

    /** A link's strength, and whether it was heard today; its bars are the key under which it stands. */
    record Link(int strength, boolean heard) {
    }

    /** The links in their order of freshness, the freshest last, under texts of two letters. */
    static final class Bird {
        final LinkedHashMap<String, Link> links = new LinkedHashMap<>();
        String last = "";
        int today, ever, lost;

        Bird copy() {
            Bird bird = new Bird();
            bird.links.putAll(links);
            bird.last = last;
            bird.today = today;
            bird.ever = ever;
            bird.lost = lost;
            return bird;
        }
    }

    static final class World {
        int[] settings = {24, 1, 1, 20};
        List<String> songs = new ArrayList<>();
        List<Integer> lessons = new ArrayList<>();
        List<Bird> birds = new ArrayList<>();
        int nights;

        World copy() {
            World world = new World();
            world.settings = settings.clone();
            world.songs.addAll(songs);
            world.lessons.addAll(lessons);
            birds.forEach(bird -> world.birds.add(bird.copy()));
            world.nights = nights;
            return world;
        }
    }

    private World world = new World();
    private final ArrayDeque<World> history = new ArrayDeque<>();
    private final World[] slots = new World[2];
    private String pad = "";

    private static boolean error(int answer) {
        return -5 <= answer && answer <= -1;
    }

    private int recorded(World before, int answer) {
        if (!error(answer)) {
            history.addLast(before);
            if (history.size() > 6) {
                history.removeFirst();
            }
        }
        return answer;
    }

    int set(int setting, int value) {
        int[][] ranges = {{4, 60}, {0, 3}, {1, 3}, {1, 60}};
        if (setting < 0 || setting > 3 || value < ranges[setting][0] || value > ranges[setting][1]) {
            return BAD_VALUE;
        }
        World before = world.copy();
        int old = world.settings[setting];
        world.settings[setting] = value;
        return recorded(before, old);
    }

    int parrot() {
        return recorded(world.copy(), newBird());
    }

    int lesson(int parrot, int song, int from) {
        World before = world.copy();
        return recorded(before, hearSong(parrot, song, from));
    }

    int hush(int parrot) {
        World before = world.copy();
        return recorded(before, quiet(parrot));
    }

    int practise(int parrot, int bars) {
        World before = world.copy();
        return recorded(before, train(parrot, bars));
    }

    int night() {
        World before = world.copy();
        return recorded(before, dark());
    }

    private int newBird() {
        if (world.birds.size() == 4) {
            return TOO_MANY;
        }
        world.birds.add(new Bird());
        return world.birds.size() - 1;
    }

    private int newSong(String bars) {
        if (world.songs.size() == 8) {
            return TOO_MANY;
        }
        world.songs.add(bars);
        world.lessons.add(0);
        return world.songs.size() - 1;
    }

    private boolean noBird(int parrot) {
        return parrot < 0 || parrot >= world.birds.size();
    }

    private boolean noSong(int song) {
        return song < 0 || song >= world.songs.size();
    }

    private boolean tired(Bird bird) {
        return bird.today >= world.settings[3];
    }

    private void hear(Bird bird, String bar) {
        if (!bird.last.isEmpty()) {
            Link known = bird.links.remove(bird.last + bar);
            int strength = known == null ? world.settings[2] : Math.min(9, known.strength() + world.settings[2]);
            bird.links.put(bird.last + bar, new Link(strength, true));
            if (bird.links.size() > world.settings[0]) {
                int least = Collections.min(bird.links.values().stream().map(Link::strength).toList());
                String oldest = bird.links.entrySet().stream()
                        .filter(e -> e.getValue().strength() == least).findFirst().orElseThrow().getKey();
                bird.links.remove(oldest);
                bird.lost++;
            }
        }
        bird.last = bar;
        bird.today++;
        bird.ever++;
    }

    private int hearSong(int parrot, int song, int from) {
        if (noBird(parrot) || noSong(song)) {
            return NO_SUCH;
        }
        String bars = world.songs.get(song);
        if (from < 0 || from >= bars.length()) {
            return BAD_VALUE;
        }
        Bird bird = world.birds.get(parrot);
        if (tired(bird)) {
            return NOT_POSSIBLE;
        }
        world.lessons.set(song, world.lessons.get(song) + 1);
        int heard = 0;
        for (String bar : bars.substring(from).split("")) {
            if (!tired(bird)) {
                hear(bird, bar);
                heard++;
            }
        }
        return heard;
    }

    private int quiet(int parrot) {
        if (noBird(parrot)) {
            return NO_SUCH;
        }
        String last = world.birds.get(parrot).last;
        world.birds.get(parrot).last = "";
        return number(last);
    }

    private static int number(String bar) {
        return bar.isEmpty() ? NONE : bar.charAt(0) - 'a';
    }

    private int train(int parrot, int bars) {
        if (noBird(parrot)) {
            return NO_SUCH;
        }
        if (bars < 1 || bars > 40) {
            return BAD_VALUE;
        }
        Bird singer = world.birds.get(parrot);
        if (singer.last.isEmpty() || tired(singer)) {
            return NOT_POSSIBLE;
        }
        String song = sung(singer, singer.last, bars).substring(1);
        List<Bird> hearers = new ArrayList<>(world.birds);
        hearers.remove(singer);
        hearers.add(0, singer);
        for (Bird hearer : hearers) {
            for (char bar : song.toCharArray()) {
                if (!tired(hearer)) {
                    hear(hearer, String.valueOf(bar));
                }
            }
        }
        return song.length();
    }

    private int dark() {
        if (world.nights == 999) {
            return NOT_POSSIBLE;
        }
        world.nights++;
        int gone = 0;
        for (Bird bird : world.birds) {
            gone += fade(bird);
        }
        return gone;
    }

    private int fade(Bird bird) {
        int before = bird.links.size();
        bird.links.replaceAll((key, link) -> new Link(link.strength() - (link.heard() ? 0 : world.settings[1]), false));
        bird.links.values().removeIf(link -> link.strength() < 1);
        int gone = before - bird.links.size();
        bird.lost += gone;
        bird.last = "";
        bird.today = 0;
        return gone;
    }

    /** Returns a bar and up to so many behind it. */
    private static String sung(Bird bird, String bar, int steps) {
        StringBuilder song = new StringBuilder(bar);
        for (int i = 0; i < steps; i++) {
            String at = song.substring(song.length() - 1);
            String best = "";
            for (Map.Entry<String, Link> e : bird.links.entrySet()) {
                if (e.getKey().startsWith(at)
                        && (best.isEmpty() || e.getValue().strength() >= bird.links.get(best).strength())) {
                    best = e.getKey();
                }
            }
            if (best.isEmpty()) {
                break;
            }
            song.append(best.substring(1));
        }
        return song.toString();
    }

    private static int right(Bird bird, String bars) {
        String song = sung(bird, bars.substring(0, 1), bars.length() - 1);
        int same = 0;
        while (same < song.length() && song.charAt(same) == bars.charAt(same)) {
            same++;
        }
        return same - 1;
    }

    private static int hundredths(Bird bird, String bars) {
        return bars.length() == 1 ? 100 : 100 * right(bird, bars) / (bars.length() - 1);
    }

    private static boolean knowsWhole(Bird bird, String bars) {
        return hundredths(bird, bars) == 100;
    }

    int ofSong(int song, int what) {
        if (noSong(song)) {
            return NO_SUCH;
        }
        String bars = world.songs.get(song);
        return switch (what) {
            case 0 -> bars.length();
            case 1 -> (int) bars.chars().distinct().count();
            case 2 -> bars.charAt(0) - 'a';
            case 3 -> bars.charAt(bars.length() - 1) - 'a';
            case 4 -> world.lessons.get(song);
            case 5 -> {
                int set = 0;
                for (int i = 0; i < world.birds.size(); i++) {
                    set += knowsWhole(world.birds.get(i), bars) ? 1 << i : 0;
                }
                yield set;
            }
            default -> BAD_VALUE;
        };
    }

    int bar(int song, int index) {
        return noSong(song) || index < 0 || index >= world.songs.get(song).length()
                ? NO_SUCH : world.songs.get(song).charAt(index) - 'a';
    }

    int of(int parrot, int what) {
        if (noBird(parrot)) {
            return NO_SUCH;
        }
        Bird bird = world.birds.get(parrot);
        return switch (what) {
            case 0 -> bird.links.size();
            case 1 -> bird.links.values().stream().mapToInt(Link::strength).sum();
            case 2 -> number(bird.last);
            case 3 -> bird.today;
            case 4 -> bird.ever;
            case 5 -> bird.lost;
            case 6 -> {
                int set = 0;
                for (int i = 0; i < world.songs.size(); i++) {
                    set += knowsWhole(bird, world.songs.get(i)) ? 1 << i : 0;
                }
                yield set;
            }
            default -> BAD_VALUE;
        };
    }

    int link(int parrot, int rank, int what) {
        if (noBird(parrot) || rank < 0 || rank >= world.birds.get(parrot).links.size()) {
            return NO_SUCH;
        }
        List<Map.Entry<String, Link>> links = new ArrayList<>(world.birds.get(parrot).links.entrySet());
        Map.Entry<String, Link> link = links.get(links.size() - 1 - rank);
        return switch (what) {
            case 0 -> link.getKey().charAt(0) - 'a';
            case 1 -> link.getKey().charAt(1) - 'a';
            case 2 -> link.getValue().strength();
            case 3 -> link.getValue().heard() ? 1 : 0;
            default -> BAD_VALUE;
        };
    }

    int sings(int parrot, int bar, int steps) {
        if (noBird(parrot)) {
            return NO_SUCH;
        }
        if (bar < 0 || bar > 25 || steps < 0 || steps > 99) {
            return BAD_VALUE;
        }
        String song = sung(world.birds.get(parrot), String.valueOf((char) ('a' + bar)), steps);
        return song.length() <= steps ? NONE : song.charAt(steps) - 'a';
    }

    int knows(int parrot, int song) {
        return noBird(parrot) || noSong(song) ? NO_SUCH : hundredths(world.birds.get(parrot), world.songs.get(song));
    }

    int mistake(int parrot, int song, int what) {
        if (noBird(parrot) || noSong(song)) {
            return NO_SUCH;
        }
        if (what < 0 || what > 2) {
            return BAD_VALUE;
        }
        Bird bird = world.birds.get(parrot);
        String bars = world.songs.get(song);
        if (knowsWhole(bird, bars)) {
            return NOT_POSSIBLE;
        }
        int index = right(bird, bars) + 1;
        String pair = sung(bird, bars.substring(index - 1, index), 1);
        int set = 0;
        for (int i = 0; i < world.songs.size(); i++) {
            set += pair.length() == 2 && world.songs.get(i).contains(pair) ? 1 << i : 0;
        }
        int[] answers = {index, number(pair.substring(1)), set};
        return answers[what];
    }

    int rhymes(int song, int other) {
        if (noSong(song) || noSong(other)) {
            return NO_SUCH;
        }
        String bars = world.songs.get(song);
        String others = world.songs.get(other);
        int same = 0;
        while (same < bars.length() && others.endsWith(bars.substring(bars.length() - 1 - same))) {
            same++;
        }
        return same;
    }

    int follows(int parrot, int song) {
        if (noBird(parrot) || noSong(song)) {
            return NO_SUCH;
        }
        String bars = world.songs.get(song);
        String next = sung(world.birds.get(parrot), bars.substring(bars.length() - 1), 1).substring(1);
        int set = 0;
        for (int i = 0; i < world.songs.size(); i++) {
            set += !next.isEmpty() && world.songs.get(i).startsWith(next) ? 1 << i : 0;
        }
        return set;
    }

    int count(int what) {
        int set = 0;
        for (int i = 0; i < world.birds.size(); i++) {
            set += tired(world.birds.get(i)) ? 1 << i : 0;
        }
        return switch (what) {
            case 0 -> world.nights;
            case 1 -> world.songs.size();
            case 2 -> world.birds.size();
            case 3 -> world.lessons.stream().mapToInt(Integer::intValue).sum();
            case 4 -> world.birds.stream().mapToInt(bird -> bird.ever).sum();
            case 5 -> world.birds.stream().mapToInt(bird -> bird.links.size()).sum();
            case 6 -> world.birds.stream().mapToInt(bird -> bird.lost).sum();
            case 7 -> set;
            case 8, 9, 10, 11 -> world.settings[what - 8];
            case 12 -> pad.length();
            case 13 -> history.size();
            default -> BAD_VALUE;
        };
    }

    private void hearWhole(Bird bird, String bars) {
        for (String bar : bars.split("")) {
            hear(bird, bar);
        }
    }

    int lessonsFor(int parrot, int song) {
        if (noBird(parrot) || noSong(song)) {
            return NO_SUCH;
        }
        Bird bird = world.birds.get(parrot).copy();
        String bars = world.songs.get(song);
        int lessons = 0;
        while (!knowsWhole(bird, bars)) {
            if (lessons == 30) {
                return NONE;
            }
            bird.last = "";
            hearWhole(bird, bars);
            lessons++;
        }
        return lessons;
    }

    private int together(Bird bird) {
        return world.songs.stream().mapToInt(bars -> hundredths(bird, bars)).sum();
    }

    int bestLesson(int parrot, int what) {
        if (noBird(parrot)) {
            return NO_SUCH;
        }
        if (what < 0 || what > 1) {
            return BAD_VALUE;
        }
        List<Integer> sums = new ArrayList<>();
        for (String bars : world.songs) {
            Bird bird = world.birds.get(parrot).copy();
            hearWhole(bird, bars);
            sums.add(together(bird));
        }
        int now = together(world.birds.get(parrot));
        if (sums.isEmpty() || Collections.max(sums) <= now) {
            return NONE;
        }
        return what == 0 ? sums.indexOf(Collections.max(sums)) : Collections.max(sums);
    }

    int keeps(int parrot, int song) {
        if (noBird(parrot) || noSong(song)) {
            return NO_SUCH;
        }
        Bird bird = world.birds.get(parrot).copy();
        int nights = 0;
        while (knowsWhole(bird, world.songs.get(song))) {
            if (nights == 30) {
                return NONE;
            }
            fade(bird);
            nights++;
        }
        return nights;
    }

    int put(long characters) {
        byte[] bytes = new byte[8];
        for (int i = 7; i >= 0; i--) {
            bytes[i] = (byte) (characters >> 8 * (7 - i));
        }
        int first = 0;
        while (first < 8 && bytes[first] == 0) {
            first++;
        }
        if (first == 8) {
            return BAD_VALUE;
        }
        for (byte code : Arrays.copyOfRange(bytes, first, 8)) {
            if (code < 33 || code > 126) {
                return BAD_VALUE;
            }
        }
        if (pad.length() + 8 - first > 80) {
            return TOO_MANY;
        }
        for (byte code : Arrays.copyOfRange(bytes, first, 8)) {
            pad += (char) code;
        }
        return pad.length();
    }

    int wipe() {
        int length = pad.length();
        pad = "";
        return length;
    }

    /** A prefix can be read if it is a text, or the reading runs into its end. */
    int fault() {
        for (int i = 0; i < pad.length(); i++) {
            Matcher matcher = TEXT.matcher(pad.substring(0, i + 1));
            if (!matcher.matches() && !matcher.hitEnd()) {
                return i;
            }
        }
        return TEXT.matcher(pad).matches() ? NONE : pad.length();
    }

    int carryOut() {
        if (fault() != NONE) {
            return BAD_TEXT;
        }
        World before = world.copy();
        int done = 0;
        for (String order : pad.split(";")) {
            if (error(carry(order))) {
                break;
            }
            done++;
        }
        pad = "";
        return recorded(before, done);
    }

    private int carry(String order) {
        String[] parts = order.substring(1).split("[./*]");
        return switch (order.charAt(0)) {
            case 'S' -> newSong(parts[0]);
            case 'B' -> newBird();
            case 'N' -> dark();
            case 'H' -> quiet(Integer.parseInt(parts[0]));
            case 'P' -> train(Integer.parseInt(parts[0]), Integer.parseInt(parts[1]));
            default -> hearSong(Integer.parseInt(parts[0]), Integer.parseInt(parts[1]),
                    parts.length > 2 ? Integer.parseInt(parts[2]) : 0);
        };
    }

    int undo() {
        if (history.isEmpty()) {
            return NOT_POSSIBLE;
        }
        world = history.removeLast();
        return history.size();
    }

    int save(int slot) {
        if (slot < 0 || slot > 1) {
            return BAD_VALUE;
        }
        slots[slot] = world.copy();
        return world.songs.size();
    }

    int restore(int slot) {
        if (slot < 0 || slot > 1) {
            return BAD_VALUE;
        }
        if (slots[slot] == null) {
            return NOT_POSSIBLE;
        }
        World before = world;
        world = slots[slot].copy();
        return recorded(before, world.songs.size());
    }
}
