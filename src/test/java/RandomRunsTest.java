import java.util.Random;

/** Long runs of calls, the same ones each time, whose answers are compared with those of PlainModel. */
public final class RandomRunsTest {
    private static final int RUNS = 1000;
    /** The most calls that one question may take: a long text is put, looked at and carried out. */
    private static final int MOST_AT_ONCE = 24;
    private static final String[] NAMES = {
        "set", "parrot", "lesson", "hush", "practise", "night", "ofSong", "bar", "of", "link", "sings", "knows",
        "mistake", "rhymes", "follows", "count", "lessonsFor", "bestLesson", "keeps", "put", "wipe", "fault",
        "carryOut", "undo", "save", "restore"};
    private static final int[] WEIGHTS = {
        6, 2, 24, 4, 10, 6, 8, 3, 12, 12, 8, 10,
        12, 4, 6, 14, 8, 8, 10, 12, 1, 6,
        8, 6, 2, 3};

    private final Random random;
    private final CountedSongs real = new CountedSongs();
    private final PlainModel plain = new PlainModel();
    private final int letters;
    private final int most;

    private RandomRunsTest(int seed) {
        random = new Random(seed);
        letters = 2 + random.nextInt(12);
        most = 2 + random.nextInt(19);
    }

    public static void main(String[] args) {
        for (int seed = 0; seed < RUNS; seed++) {
            new RandomRunsTest(seed).run(seed);
        }
        Check.end();
    }

    private void run(int seed) {
        for (int i = 0; real.calls() <= CountedSongs.MOST - MOST_AT_ONCE; i++) {
            ask("run " + seed + ", call " + i + ": ", i < 4 ? 22 : pick());
        }
    }

    private int pick() {
        int sum = 0;
        for (int weight : WEIGHTS) {
            sum += weight;
        }
        int at = random.nextInt(sum);
        int call = 0;
        while (at >= WEIGHTS[call]) {
            at -= WEIGHTS[call];
            call++;
        }
        return call;
    }

    /** Mostly a number from 0 to the given one, at times one that is off, or far off. */
    private int upTo(int top) {
        int kind = random.nextInt(60);
        if (kind == 0) {
            return random.nextInt();
        }
        return kind == 1 ? top + 1 : kind == 2 ? -1 : random.nextInt(top + 1);
    }

    private int parrotOf() {
        return upTo(Math.max(0, plain.count(2) - 1));
    }

    private int songOf() {
        return upTo(Math.max(0, plain.count(1) - 1));
    }

    private void ask(String where, int call) {
        int a = 0, b = 0, c = 0;
        switch (NAMES[call]) {
            case "set": a = upTo(3); b = upTo(random.nextBoolean() ? 8 : 60); break;
            case "lesson": a = parrotOf(); b = songOf(); c = random.nextInt(3) == 0 ? upTo(19) : 0; break;
            case "hush": a = parrotOf(); break;
            case "practise": a = parrotOf(); b = upTo(40); break;
            case "ofSong": a = songOf(); b = upTo(5); break;
            case "bar": a = songOf(); b = upTo(19); break;
            case "of": a = parrotOf(); b = upTo(6); break;
            case "link": a = parrotOf(); b = upTo(random.nextBoolean() ? 5 : 60); c = upTo(3); break;
            case "sings": a = parrotOf(); b = upTo(random.nextBoolean() ? letters : 25); c = upTo(random.nextBoolean() ? 5 : 99); break;
            case "mistake": a = parrotOf(); b = songOf(); c = upTo(2); break;
            case "rhymes": a = songOf(); b = songOf(); break;
            case "count": a = upTo(13); break;
            case "bestLesson": a = parrotOf(); b = upTo(1); break;
            case "knows": case "follows": case "lessonsFor": case "keeps": a = parrotOf(); b = songOf(); break;
            case "put": put(where); return;
            case "carryOut": tell(where); return;
            case "save": case "restore": a = upTo(1); break;
            default: break;
        }
        Check.due(where + NAMES[call] + "(" + a + ", " + b + ", " + c + ")", ofReal(call, a, b, c), ofPlain(call, a, b, c));
    }

    private int ofReal(int call, int a, int b, int c) {
        switch (NAMES[call]) {
            case "set": return real.set(a, b);
            case "parrot": return real.parrot();
            case "lesson": return real.lesson(a, b, c);
            case "hush": return real.hush(a);
            case "practise": return real.practise(a, b);
            case "night": return real.night();
            case "ofSong": return real.ofSong(a, b);
            case "bar": return real.bar(a, b);
            case "of": return real.of(a, b);
            case "link": return real.link(a, b, c);
            case "sings": return real.sings(a, b, c);
            case "knows": return real.knows(a, b);
            case "mistake": return real.mistake(a, b, c);
            case "rhymes": return real.rhymes(a, b);
            case "follows": return real.follows(a, b);
            case "count": return real.count(a);
            case "lessonsFor": return real.lessonsFor(a, b);
            case "bestLesson": return real.bestLesson(a, b);
            case "keeps": return real.keeps(a, b);
            case "wipe": return real.wipe();
            case "fault": return real.fault();
            case "carryOut": return real.carryOut();
            case "undo": return real.undo();
            case "save": return real.save(a);
            default: return real.restore(a);
        }
    }

    private int ofPlain(int call, int a, int b, int c) {
        switch (NAMES[call]) {
            case "set": return plain.set(a, b);
            case "parrot": return plain.parrot();
            case "lesson": return plain.lesson(a, b, c);
            case "hush": return plain.hush(a);
            case "practise": return plain.practise(a, b);
            case "night": return plain.night();
            case "ofSong": return plain.ofSong(a, b);
            case "bar": return plain.bar(a, b);
            case "of": return plain.of(a, b);
            case "link": return plain.link(a, b, c);
            case "sings": return plain.sings(a, b, c);
            case "knows": return plain.knows(a, b);
            case "mistake": return plain.mistake(a, b, c);
            case "rhymes": return plain.rhymes(a, b);
            case "follows": return plain.follows(a, b);
            case "count": return plain.count(a);
            case "lessonsFor": return plain.lessonsFor(a, b);
            case "bestLesson": return plain.bestLesson(a, b);
            case "keeps": return plain.keeps(a, b);
            case "wipe": return plain.wipe();
            case "fault": return plain.fault();
            case "carryOut": return plain.carryOut();
            case "undo": return plain.undo();
            case "save": return plain.save(a);
            default: return plain.restore(a);
        }
    }

    /** A put of signs that orders are made of, or of any bits. */
    private void put(String where) {
        long characters = random.nextLong() >>> 8 * random.nextInt(8);
        if (random.nextInt(4) > 0) {
            characters = 0;
            for (int i = random.nextInt(9); i > 0; i--) {
                characters = characters << 8 | "SBLHPN;;./*0123456789abcdz".charAt(random.nextInt(26));
            }
        }
        put(where, characters);
    }

    private void put(String where, long characters) {
        Check.due(where + "put(" + characters + ")", real.put(characters), plain.put(characters));
    }

    /** Mostly a right text that is put whole and carried out, at times with one sign that is not right. */
    private void tell(String where) {
        StringBuilder text = new StringBuilder();
        int orders = 1 + random.nextInt(6);
        for (int i = 0; i < orders; i++) {
            text.append(i == 0 ? "" : ";").append(order());
        }
        if (random.nextInt(4) == 0) {
            char sign = "SBLHPN;;./*0123456789abcdz".charAt(random.nextInt(26));
            text.setCharAt(random.nextInt(text.length()), sign);
        }
        if (random.nextInt(3) > 0) {
            Check.due(where + "wipe()", real.wipe(), plain.wipe());
        }
        for (int i = 0; i < text.length(); i += 8) {
            put(where, Check.packed(text.substring(i, Math.min(text.length(), i + 8))));
        }
        Check.due(where + text + " fault()", real.fault(), plain.fault());
        Check.due(where + text + " carryOut()", real.carryOut(), plain.carryOut());
    }

    private String order() {
        int parrot = random.nextInt(Math.max(1, plain.count(2)) + (random.nextInt(8) == 0 ? 1 : 0));
        int song = random.nextInt(Math.max(1, plain.count(1)) + (random.nextInt(8) == 0 ? 1 : 0));
        switch (random.nextInt(8)) {
            case 0: case 1: case 2: return song();
            case 3: return plain.count(2) < 2 || random.nextInt(4) == 0 ? "B" : "L" + parrot + "." + song;
            case 4: return "L" + parrot + "." + song + (random.nextBoolean() ? "" : "/" + random.nextInt(6));
            case 5: return "H" + parrot;
            case 6: return "P" + parrot + "*" + random.nextInt(random.nextBoolean() ? 12 : 110);
            default: return random.nextBoolean() ? "N" : "L" + parrot + "." + song;
        }
    }

    /** A song of few letters, so that songs have bars and pairs of bars in common. */
    private String song() {
        StringBuilder song = new StringBuilder("S");
        int bars = 1 + random.nextInt(most + (random.nextInt(20) == 0 ? 3 : 0));
        int bar = random.nextInt(letters);
        for (int i = 0; i < bars; i++) {
            song.append((char) ('a' + bar));
            bar = random.nextInt(4) == 0 ? random.nextInt(letters) : (bar + 1) % letters;
        }
        return song.toString();
    }
}
