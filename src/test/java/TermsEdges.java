import java.util.LinkedHashMap;
import java.util.List;
import java.util.Map;
import java.util.function.Supplier;
import java.util.function.ToIntFunction;

/** The sentences of "Terms", and of the whole. */
final class TermsEdges extends Edges {
    private TermsEdges() {
    }

    // ---- the whole

    @Sentence(of = "What it is",
            says = "An object is used for at most 512 calls after it has been made; what later calls answer is free.")
    static void the512thCallAnswersYet() {
        CountedSongs x = told("Sab;B");
        while (x.calls() < CountedSongs.MOST - 1) {
            due("night", x.night(), 0);
        }
        due("the 512th call", x.count(0), 509);
    }

    @Sentence(of = "What it is", says = "what later calls answer is free")
    static void callsBehindThe512thEnd() {
        ParrotSongs x = new ParrotSongs();
        for (int i = 0; i < 4096; i++) {
            x.put(Check.packed(i % 2 == 0 ? "B;Sab;N" : ";L0.0"));
            x.carryOut();
            x.lesson(i % 5, i % 9, 0);
            x.practise(i % 5, 40);
            x.wipe();
        }
        holds("each call ended", true);
    }

    // ---- CONVENTIONS

    @Sentence(of = "Terms",
            says = "CONVENTIONS. A method that fails returns one of the error codes NO_SUCH (-1), BAD_VALUE (-2), BAD_TEXT (-3), "
            + "TOO_MANY (-4) and NOT_POSSIBLE (-5);")
    static void eachErrorHasItsCode() {
        CountedSongs x = told("B;B;B;B");
        due("hush(4)", x.hush(4), -1);
        due("set(4, 0)", x.set(4, 0), -2);
        due("carryOut()", x.carryOut(), -3);
        due("parrot()", x.parrot(), -4);
        due("restore(0)", x.restore(0), -5);
    }

    @Sentence(of = "Terms", says = "it names its errors in the order in which they are checked, "
            + "and the first one that applies is returned.")
    static void theFirstErrorIsReturned() {
        CountedSongs x = told("Sabc;Sx;B;B;L0.0");
        x.set(TIRE, 3);
        due("lesson: no parrot, no bar", x.lesson(2, 0, 3), NO_SUCH);
        due("lesson: no song, tired", x.lesson(0, 2, 0), NO_SUCH);
        due("lesson: no bar, tired", x.lesson(0, 0, 3), BAD_VALUE);
        due("practise: no parrot, bars", x.practise(2, 0), NO_SUCH);
        due("practise: bars, tired", x.practise(0, 41), BAD_VALUE);
        due("practise: bars, no last bar", x.practise(1, 0), BAD_VALUE);
        due("ofSong: no song, what", x.ofSong(2, 6), NO_SUCH);
        due("of: no parrot, what", x.of(2, 7), NO_SUCH);
        due("link: no parrot, what", x.link(2, 0, 4), NO_SUCH);
        due("link: no link, what", x.link(0, 2, 4), NO_SUCH);
        due("sings: no parrot, bar, steps", x.sings(2, 26, 100), NO_SUCH);
        due("mistake: no parrot, what", x.mistake(2, 0, 3), NO_SUCH);
        due("mistake: no song, what", x.mistake(0, 2, 3), NO_SUCH);
        due("mistake: what, known", x.mistake(0, 0, 3), BAD_VALUE);
        due("bestLesson: no parrot, what", x.bestLesson(2, 2), NO_SUCH);
        Check.write(x, "N".repeat(80));
        due("put: code, length", x.put(32), BAD_VALUE);
        due("restore: no slot, nothing saved", x.restore(2), BAD_VALUE);
    }

    /** Three songs, four parrots, one of them tired and one without a last bar, six changes, both slots, and a pad. */
    private static CountedSongs busy(String pad) {
        CountedSongs x = told("Sabc;Sbd;Sq;B;B;B;B");
        x.set(TIRE, 6);
        x.lesson(1, 1, 0);
        x.night();
        x.save(0);
        x.lesson(0, 0, 0);
        x.lesson(0, 0, 0);
        x.save(1);
        x.lesson(1, 1, 0);
        x.set(SPAN, 4);
        Check.write(x, pad);
        return x;
    }

    private static void dueUnchanged(Supplier<CountedSongs> made, Map<String, ToIntFunction<CountedSongs>> calls, boolean errors) {
        String before = everything(made, x -> { });
        calls.forEach((call, asks) -> {
            int answer = asks.applyAsInt(made.get());
            holds(call + " answered " + answer, (answer <= NO_SUCH && answer >= NOT_POSSIBLE) == errors);
            due("all behind " + call, everything(made, asks::applyAsInt), before);
        });
    }

    @Sentence(of = "Terms", says = "A call that returns an error changes nothing.")
    static void changesThatAreRefusedChangeNothing() {
        Map<String, ToIntFunction<CountedSongs>> calls = new LinkedHashMap<>();
        for (int[] wrong : new int[][] {{-1, 5}, {4, 5}, {0, 3}, {0, 61}, {1, -1}, {1, 4}, {2, 0}, {2, 4}, {3, 0}, {3, 61}}) {
            calls.put("set " + wrong[0] + " " + wrong[1], x -> x.set(wrong[0], wrong[1]));
        }
        calls.put("fifth parrot", x -> x.parrot());
        for (int[] wrong : new int[][] {{-1, 0, 0}, {4, 0, 0}, {1, -1, 0}, {1, 3, 0}, {1, 0, -1}, {1, 0, 3}, {1, 2, 1}}) {
            calls.put("lesson " + wrong[0] + " " + wrong[1] + " " + wrong[2], x -> x.lesson(wrong[0], wrong[1], wrong[2]));
        }
        calls.put("lesson of a tired one", x -> x.lesson(0, 0, 0));
        calls.put("hush -1", x -> x.hush(-1));
        calls.put("hush 4", x -> x.hush(4));
        calls.put("practise -1", x -> x.practise(-1, 1));
        calls.put("practise 4", x -> x.practise(4, 1));
        calls.put("practise 0 bars", x -> x.practise(1, 0));
        calls.put("practise 41 bars", x -> x.practise(1, 41));
        calls.put("practise of a tired one", x -> x.practise(0, 1));
        calls.put("practise without a last bar", x -> x.practise(2, 1));
        calls.put("save -1", x -> x.save(-1));
        calls.put("save 2", x -> x.save(2));
        calls.put("restore -1", x -> x.restore(-1));
        calls.put("restore 2", x -> x.restore(2));
        for (long wrong : new long[] {0, 32, 127, 255, 0x4100_42L, 0x4100L, 0x4220L, 0x2042L, -1, Long.MIN_VALUE}) {
            calls.put("put " + wrong, x -> x.put(wrong));
        }
        dueUnchanged(() -> busy("Szz;N;B"), calls, true);
    }

    @Sentence(of = "Terms", says = "A call that returns an error changes nothing.")
    static void questionsThatAreRefusedChangeNothing() {
        Map<String, ToIntFunction<CountedSongs>> calls = new LinkedHashMap<>();
        calls.put("ofSong 3", x -> x.ofSong(3, 0));
        calls.put("ofSong what", x -> x.ofSong(0, 6));
        calls.put("bar", x -> x.bar(0, 3));
        calls.put("of 4", x -> x.of(4, 0));
        calls.put("of what", x -> x.of(0, 7));
        calls.put("link 9", x -> x.link(0, 9, 0));
        calls.put("link what", x -> x.link(0, 0, 4));
        calls.put("sings 4", x -> x.sings(4, 0, 0));
        calls.put("sings steps", x -> x.sings(0, 0, 100));
        calls.put("knows", x -> x.knows(4, 0));
        calls.put("mistake 4", x -> x.mistake(4, 0, 0));
        calls.put("mistake what", x -> x.mistake(0, 0, 3));
        calls.put("mistake in what is known", x -> x.mistake(0, 0, 0));
        calls.put("rhymes", x -> x.rhymes(0, 3));
        calls.put("follows", x -> x.follows(0, 3));
        calls.put("count", x -> x.count(14));
        calls.put("lessonsFor", x -> x.lessonsFor(4, 0));
        calls.put("bestLesson 4", x -> x.bestLesson(4, 0));
        calls.put("bestLesson what", x -> x.bestLesson(0, 2));
        calls.put("keeps", x -> x.keeps(0, 3));
        dueUnchanged(() -> busy("Szz;N;B"), calls, true);
    }

    @Sentence(of = "Terms", says = "A call that returns an error changes nothing.")
    static void whatIsRefusedOfTheEmptyAndTheFullChangesNothing() {
        dueUnchanged(CountedSongs::new, Map.of("carryOut", x -> x.carryOut(), "undo", x -> x.undo(), "restore 0", x -> x.restore(0),
                "restore 1", x -> x.restore(1), "lesson", x -> x.lesson(0, 0, 0), "hush", x -> x.hush(0)), true);
        dueUnchanged(() -> busy("Szz;N;X;B"), Map.of("carryOut", x -> x.carryOut()), true);
        dueUnchanged(() -> busy("Szz;" + "N;".repeat(37) + "B"), Map.of("two more", x -> x.put(Check.packed(";B")),
                "eight more", x -> x.put(Check.packed(";B;B;B;B"))), true);
        dueUnchanged(() -> busy("Szz;" + "N;".repeat(38)), Map.of("one more", x -> x.put('B')), true);
        dueUnchanged(TermsEdges::oldHouse, Map.of("night", x -> x.night()), true);
    }

    /** A house with as many nights as there may be. */
    static CountedSongs oldHouse() {
        CountedSongs x = new CountedSongs();
        String forty = "N" + ";N".repeat(39);
        for (int nights = 0; nights < 960; nights += 40) {
            tell(x, forty);
        }
        tell(x, forty.substring(2));
        return x;
    }

    @Sentence(of = "Terms", says = "NONE (-6) is not an error;")
    static void whatAnswersNoneIsCarriedOutAndRecorded() {
        CountedSongs x = told("B");
        due("hush", x.hush(0), -6);
        due("changes", x.count(13), 2);
        due("orders", Check.tell(x, "H0;H0;B"), 3);
        due("parrots", x.count(2), 2);
    }

    @Sentence(of = "Terms", says = "it is returned only if no error applies.")
    static void anErrorComesAheadOfNone() {
        CountedSongs x = told("Sab;Sx;B");
        due("last bar", x.of(0, 2), NONE);
        due("last bar of no parrot", x.of(1, 2), NO_SUCH);
        due("hush of no parrot", x.hush(1), NO_SUCH);
        due("stops", x.sings(0, 0, 99), NONE);
        due("too many steps", x.sings(0, 0, 100), BAD_VALUE);
        due("no parrot stops", x.sings(1, 0, 99), NO_SUCH);
        due("a bar that is not sung", x.mistake(0, 0, 1), NONE);
        due("no song", x.mistake(0, 2, 1), NO_SUCH);
        due("keeps for ever", x.keeps(0, 1), NONE);
        due("no song is kept", x.keeps(0, 2), NO_SUCH);
        x.set(TIRE, 60);
        tell(x, "Sabaca;B;L1.1");
        due("never", x.lessonsFor(0, 2), NONE);
        due("no song", x.lessonsFor(0, 3), NO_SUCH);
        due("known by no lesson", told("Sx;B").bestLesson(0, 0), NONE);
        due("no such question", told("Sx;B").bestLesson(0, 2), BAD_VALUE);
        due("no fault", told("Sx;B").fault(), 0);
    }

    @Sentence(of = "Terms", says = "Everything is numbered from 0.")
    static void theFirstOnesHaveTheNumber0() {
        CountedSongs x = told("Sdce");
        due("the first parrot", x.parrot(), 0);
        due("lesson of the first song from the first bar on", x.lesson(0, 0, 0), 3);
        due("the first bar", x.bar(0, 0), 3);
        due("the freshest link", x.link(0, 0, 1), 4);
        due("the first day", x.count(0), 0);
        due("the first slot", x.save(0), 1);
        due("the first setting", x.set(0, 24), 24);
        due("a mistake in the second bar", told("Sab;B").mistake(0, 0, 0), 1);
        due("a fault in the first sign", new CountedSongs().fault(), 0);
    }

    /** Knows the song of so many bars by so many of them behind the first one. */
    private static int hundredths(int right, int bars) {
        CountedSongs x = told("S" + TWENTY.substring(0, bars) + ";B");
        x.set(TIRE, right + 1);
        x.lesson(0, 0, 0);
        return x.knows(0, 0);
    }

    @Sentence(of = "Terms", says = "Divisions are rounded down.")
    static void hundredthsAreRoundedDown() {
        due("1 of 3", hundredths(1, 4), 33);
        due("2 of 3", hundredths(2, 4), 66);
        due("5 of 7", hundredths(5, 8), 71);
        due("1 of 19", hundredths(1, 20), 5);
        due("18 of 19", hundredths(18, 20), 94);
    }

    @Sentence(of = "Terms", says = "Sets of songs and parrots are bit masks.")
    static void setsAreBitMasks() {
        CountedSongs x = told("Sab;Sb;Sc;Sd;Se;Sf;Sg;Sba;B;B;B;B");
        due("no song of two", x.of(0, 6), 126);
        due("all parrots", x.ofSong(1, 5), 15);
        due("no parrot", x.ofSong(7, 5), 0);
        due("a lesson", x.lesson(3, 7, 0), 2);
        due("the last parrot", x.ofSong(7, 5), 8);
        due("the last song, too", x.of(3, 6), 254);
        x.set(TIRE, 2);
        due("the last one is tired", x.count(7), 8);
        due("the last song follows the first one",
                told("Sab;Sc;Sd;Se;Sf;Sg;Sh;Sza;B;L0.0;L0.7").follows(0, 0), 128);
    }

    @Sentence(of = "Terms", says = "Bars are letters, told by their places in the alphabet: 0 for a, up to 25 for z.")
    static void barsAreTheirPlacesInTheAlphabet() {
        CountedSongs x = told("Sabcdefghijklm;Snopqrstuvwxyz;Saz;B;L0.2");
        for (int i = 0; i < 13; i++) {
            due("bar", x.bar(0, i), i);
            due("bar", x.bar(1, i), 13 + i);
        }
        due("first", x.ofSong(2, 2), 0);
        due("last", x.ofSong(2, 3), 25);
        due("link", links(x, 0), "az1*");
        due("last bar", x.of(0, 2), 25);
        due("sings", x.sings(0, 0, 1), 25);
        due("sings a wrong z", x.mistake(0, 0, 1), 25);
        due("hush", x.hush(0), 25);
    }

    // ---- the constants, and what the interface says ahead of the calls

    @Sentence(of = "Texts",
            says = "The constants: `NO_SUCH = -1, BAD_VALUE = -2, BAD_TEXT = -3, TOO_MANY = -4, NOT_POSSIBLE = -5, "
            + "NONE = -6`: Error codes, and NONE: there is none.")
    static void errorsAndNone() throws ReflectiveOperationException {
        String[] names = {"NO_SUCH", "BAD_VALUE", "BAD_TEXT", "TOO_MANY", "NOT_POSSIBLE", "NONE"};
        for (int i = 0; i < names.length; i++) {
            due(names[i], ParrotSongs.class.getField(names[i]).getInt(null), -1 - i);
        }
    }

    @Sentence(of = "Texts", says = "`SPAN = 0, FADE = 1, GAIN = 2, TIRE = 3`: Settings.")
    static void settings() throws ReflectiveOperationException {
        String[] names = {"SPAN", "FADE", "GAIN", "TIRE"};
        for (int i = 0; i < names.length; i++) {
            due(names[i], ParrotSongs.class.getField(names[i]).getInt(null), i);
        }
    }

    @Sentence(of = "Texts", says = "Ahead of the calls `set`, `parrot`, `lesson`, `hush`, `practise`, `night` "
            + "the interface says: ---- changes.")
    static void changesAreRecorded() {
        List<ToIntFunction<CountedSongs>> changes = List.of(x -> x.set(SPAN, 24), x -> x.parrot(), x -> x.lesson(0, 0, 0),
                x -> x.practise(0, 1), x -> x.hush(0), x -> x.night());
        CountedSongs x = told("Sab");
        for (int i = 0; i < 5; i++) {
            changes.get(i).applyAsInt(x);
            due("recorded", x.count(13), i + 2);
        }
        x.undo();
        changes.get(5).applyAsInt(x);
        due("recorded", x.count(13), 6);
    }

    @Sentence(of = "Texts",
            says = "Ahead of the calls `ofSong`, `bar`, `of`, `link`, `sings`, `knows`, `mistake`, `rhymes`, `follows`, "
            + "`count` the interface says: ---- what there is.")
    static void questionsChangeNothing() {
        Map<String, ToIntFunction<CountedSongs>> calls = new LinkedHashMap<>();
        for (int what = 0; what <= 6; what++) {
            int i = what;
            calls.put("of " + i, x -> Math.abs(x.of(0, i)));
            calls.put("ofSong " + i, x -> x.ofSong(0, Math.min(i, 5)));
            calls.put("link " + i, x -> x.link(0, 0, Math.min(i, 3)));
            calls.put("count " + i, x -> x.count(i) + x.count(7 + i));
        }
        calls.put("bar", x -> x.bar(0, 2));
        calls.put("sings", x -> x.sings(0, 0, 99));
        calls.put("knows", x -> x.knows(0, 0));
        calls.put("mistake 0", x -> x.mistake(2, 0, 0));
        calls.put("mistake 1", x -> x.mistake(2, 0, 1));
        calls.put("mistake 2", x -> x.mistake(2, 0, 2));
        calls.put("rhymes", x -> x.rhymes(0, 1));
        calls.put("follows", x -> x.follows(0, 0));
        dueUnchanged(() -> busy("Szz;N;B"), calls, false);
    }

    @Sentence(of = "Texts",
            says = "Ahead of the calls `lessonsFor`, `bestLesson`, `keeps` the interface says: ---- what if; "
            + "nothing changes (being tired does not matter here).")
    static void whatIfChangesNothing() {
        Map<String, ToIntFunction<CountedSongs>> calls = new LinkedHashMap<>();
        for (int i = 0; i < 4; i++) {
            int parrot = i;
            calls.put("lessonsFor " + i, x -> x.lessonsFor(parrot, 0));
            calls.put("bestLesson " + i, x -> x.bestLesson(parrot, 0));
            calls.put("together " + i, x -> x.bestLesson(parrot, 1));
            calls.put("keeps " + i, x -> x.keeps(parrot, 0));
            calls.put("for ever " + i, x -> x.keeps(parrot, 2));
        }
        dueUnchanged(() -> busy("Szz;N;B"), calls, false);
    }

    @Sentence(of = "Texts", says = "(being tired does not matter here)")
    static void whatIfTheParrotIsTired() {
        CountedSongs x = told("Sabcd;Sx;B");
        x.set(TIRE, 1);
        x.lesson(0, 1, 0);
        due("tired", x.lesson(0, 0, 0), NOT_POSSIBLE);
        due("one lesson is enough", x.lessonsFor(0, 0), 1);
        due("helps", x.bestLesson(0, 0), 0);
        due("all", x.bestLesson(0, 1), 200);
        due("keeps", x.keeps(0, 1), NONE);
        x.night();
        due("tired by the first bar of four", x.lessonsFor(0, 0), 1);
        due("tired by the first bar of four", x.bestLesson(0, 1), 200);
    }

    @Sentence(of = "Texts",
            says = "Ahead of the calls `put`, `wipe`, `fault`, `carryOut` the interface says: ---- texts.")
    static void whatIsPutAndWipedIsNotRecorded() {
        CountedSongs x = told("Sab;B");
        String before = seen(x);
        due("put", x.put(Check.packed("B;N")), 3);
        due("fault", x.fault(), NONE);
        due("not recorded", x.count(13), 1);
        due("wipe", x.wipe(), 3);
        due("not recorded", x.count(13), 1);
        due("nothing else", seen(x), before);
        due("carried out", Check.tell(x, "N"), 1);
        due("recorded", x.count(13), 2);
    }

    @Sentence(of = "Texts",
            says = "Ahead of the calls `undo`, `save`, `restore` the interface says: ---- undo, saving.")
    static void undoAndSaveAreNotRecorded() {
        CountedSongs x = told("Sab", "B");
        due("save", x.save(0), 1);
        due("not recorded", x.count(13), 2);
        due("restore", x.restore(0), 1);
        due("recorded", x.count(13), 3);
        due("undo", x.undo(), 2);
        due("not recorded", x.count(13), 2);
    }

    // ---- Settings

    private static void dueSetting(int setting, int least, int most, int first) {
        CountedSongs x = new CountedSongs();
        due("the first value", x.count(8 + setting), first);
        for (int wrong : new int[] {LEAST, -1 - most, least - 1, most + 1, most + 256, MOST}) {
            due("" + wrong, x.set(setting, wrong), BAD_VALUE);
        }
        due("the least", x.set(setting, least), first);
        due("the most", x.set(setting, most), least);
        due("the most is it now", x.count(8 + setting), most);
        int before = most;
        for (int value = least; value <= most; value++) {
            due("each one", x.set(setting, value), before);
            before = value;
        }
    }

    @Sentence(of = "Settings", says = "(In parentheses: range; first value.)")
    static void aNewObjectHasTheFirstValues() {
        int[] first = {24, 1, 1, 20};
        for (int i = 0; i < 4; i++) {
            due("setting " + i, new CountedSongs().count(8 + i), first[i]);
        }
    }

    @Sentence(of = "Settings", says = "SPAN (4 to 60; 24)")
    static void spanIs4To60() {
        dueSetting(SPAN, 4, 60, 24);
    }

    @Sentence(of = "Settings", says = "FADE (0 to 3; 1)")
    static void fadeIs0To3() {
        dueSetting(FADE, 0, 3, 1);
    }

    @Sentence(of = "Settings", says = "GAIN (1 to 3; 1)")
    static void gainIs1To3() {
        dueSetting(GAIN, 1, 3, 1);
    }

    @Sentence(of = "Settings", says = "TIRE (1 to 60; 20)")
    static void tireIs1To60() {
        dueSetting(TIRE, 1, 60, 20);
    }

    @Sentence(of = "Settings", says = "SPAN (4 to 60; 24): links that a parrot keeps;")
    static void fourLinksAreKept() {
        CountedSongs x = told("Sabcdefgh;B");
        x.set(SPAN, 4);
        x.lesson(0, 0, 0);
        due("links", links(x, 0), "gh1* fg1* ef1* de1*");
        due("forgotten", x.of(0, 5), 3);
    }

    @Sentence(of = "Settings", says = "SPAN (4 to 60; 24): links that a parrot keeps;")
    static void twentyFourLinksAreKeptAtFirst() {
        CountedSongs x = told("S" + TWENTY + ";Stuvwxy;Szx;B");
        x.set(TIRE, 60);
        tell(x, "L0.0;H0;L0.1");
        due("24 links", x.of(0, 0), 24);
        due("none forgotten", x.of(0, 5), 0);
        tell(x, "H0;L0.2");
        due("24 links", x.of(0, 0), 24);
        due("one forgotten", x.of(0, 5), 1);
    }

    @Sentence(of = "Settings", says = "SPAN (4 to 60; 24): links that a parrot keeps;")
    static void sixtyLinksAreKept() {
        CountedSongs x = told("B;S" + TWENTY + ";Sacegikmoqsuwybdfhjln", "Sbehknqtwzcfiloruxadg;Szy;Sxw");
        x.set(SPAN, 60);
        x.set(TIRE, 60);
        tell(x, "L0.0;L0.1;L0.2");
        due("59 links", x.of(0, 0), 59);
        x.night();
        tell(x, "L0.3");
        due("60 links", x.of(0, 0), 60);
        due("none forgotten", x.of(0, 5), 0);
        due("the last one", x.link(0, 59, 0), 0);
        due("none behind", x.link(0, 60, 0), NO_SUCH);
        tell(x, "H0;L0.4");
        due("60 links", x.of(0, 0), 60);
        due("one forgotten", x.of(0, 5), 1);
        due("the last one now", x.link(0, 59, 0), 1);
        due("none behind", x.link(0, 60, 0), NO_SUCH);
    }

    /** The strength of a link behind a night in which it was not heard; 0 if it is forgotten. */
    private static int faded(int strength, int fade) {
        CountedSongs x = told("Saaaaaaaaaa;B");
        x.set(TIRE, strength + 1);
        x.lesson(0, 0, 0);
        due("strength", links(x, 0), "aa" + strength + "*");
        due("heard", x.night(), 0);
        x.set(FADE, fade);
        int gone = x.night();
        due("is forgotten or not", x.of(0, 0), 1 - gone);
        return gone == 1 ? 0 : x.link(0, 0, 2);
    }

    @Sentence(of = "Settings", says = "FADE (0 to 3; 1): by how much a link that was not heard fades in a night;")
    static void linksFadeByFade() {
        for (int fade = 0; fade <= 3; fade++) {
            for (int strength = 1; strength <= 9; strength++) {
                due(strength + " less " + fade, faded(strength, fade), Math.max(0, strength - fade));
            }
        }
    }

    /** The strength of a link that was heard so often with this gain. */
    private static int grown(int gain, int times) {
        CountedSongs x = told("S" + "a".repeat(20) + ";B");
        x.set(GAIN, gain);
        x.set(TIRE, times + 1);
        x.lesson(0, 0, 0);
        return x.link(0, 0, 2);
    }

    @Sentence(of = "Settings", says = "GAIN (1 to 3; 1): by how much a link grows;")
    static void linksGrowByGain() {
        for (int gain = 1; gain <= 3; gain++) {
            due("twice with " + gain, grown(gain, 2), 2 * gain);
            due("three times with " + gain, grown(gain, 3), 3 * gain);
        }
        due("with 1 at first", links(told("Saaa;B;L0.0"), 0), "aa2*");
    }

    @Sentence(of = "Settings", says = "TIRE (1 to 60; 20): bars that a parrot hears in a day.")
    static void barsADay() {
        CountedSongs x = told("S" + TWENTY + ";Sa;B;B;B");
        due("20 at first", x.lesson(0, 0, 0), 20);
        due("no 21st", x.lesson(0, 1, 0), NOT_POSSIBLE);
        x.set(TIRE, 1);
        due("1", x.lesson(1, 0, 0), 1);
        due("no second", x.lesson(1, 1, 0), NOT_POSSIBLE);
        x.set(TIRE, 60);
        tell(x, "L2.0;L2.0;L2.0/1");
        due("the 60th", x.lesson(2, 0, 0), 1);
        due("60", x.of(2, 3), 60);
        due("no 61st", x.lesson(2, 1, 0), NOT_POSSIBLE);
    }

    // ---- Songs, parrots

    @Sentence(of = "Songs, parrots", says = "There are up to 8 songs, numbered in the order in which they came,")
    static void eightSongs() {
        CountedSongs x = told("Sh;Sg;Sf;Se;Sd;Sc;Sb;Sa");
        due("songs", x.count(1), 8);
        for (int song = 0; song < 8; song++) {
            due("song " + song, x.bar(song, 0), 7 - song);
        }
        due("a ninth one", Check.tell(x, "Sx"), 0);
        due("songs", x.count(1), 8);
        due("song 8", x.bar(8, 0), NO_SUCH);
        due("the last one", x.bar(7, 0), 0);
    }

    @Sentence(of = "Songs, parrots", says = "each of 1 to 20 bars,")
    static void songsOf1To20Bars() {
        for (int bars = 1; bars <= 20; bars++) {
            CountedSongs x = told("S" + TWENTY.substring(0, bars));
            due("bars", x.ofSong(0, 0), bars);
            due("last one", x.bar(0, bars - 1), bars - 1);
            due("behind", x.bar(0, bars), NO_SUCH);
        }
        due("none", Check.tell(new CountedSongs(), "S"), BAD_TEXT);
        due("21", Check.tell(new CountedSongs(), "S" + TWENTY + "u"), BAD_TEXT);
    }

    @Sentence(of = "Songs, parrots", says = "and up to 4 parrots, numbered likewise.")
    static void fourParrots() {
        CountedSongs x = new CountedSongs();
        for (int parrot = 0; parrot < 4; parrot++) {
            due("number", x.parrot(), parrot);
        }
        due("a fifth one", x.parrot(), TOO_MANY);
        due("parrots", x.count(2), 4);
        due("the last one", x.hush(3), NONE);
        due("no other", x.hush(4), NO_SUCH);
    }

    @Sentence(of = "Songs, parrots",
            says = "A parrot has a memory of links, the last bar that it heard (NONE at first), "
            + "and bars that it heard today.")
    static void eachParrotHasItsOwn() {
        CountedSongs x = told("Sabc;B;B;B;B");
        for (int parrot = 0; parrot < 4; parrot++) {
            due("links", x.of(parrot, 0), 0);
            due("last bar", x.of(parrot, 2), NONE);
            due("today", x.of(parrot, 3), 0);
        }
        tell(x, "L3.0");
        due("links", links(x, 3), "bc1* ab1*");
        due("last bar", x.of(3, 2), 2);
        due("today", x.of(3, 3), 3);
        for (int parrot = 0; parrot < 3; parrot++) {
            due("links", x.of(parrot, 0), 0);
            due("last bar", x.of(parrot, 2), NONE);
            due("today", x.of(parrot, 3), 0);
        }
    }

    @Sentence(of = "Songs, parrots", says = "A link leads from a bar to a bar, and has a strength (1 to 9).")
    static void linksLeadOneWay() {
        due("the way back is another one", links(told("Saba;B;L0.0"), 0), "ba1* ab1*");
        due("to the same bar", links(told("Szz;B;L0.0"), 0), "zz1*");
        due("from one bar to two", links(told("Sabac;B;L0.0"), 0), "ac1* ba1* ab1*");
    }

    @Sentence(of = "Songs, parrots", says = "and has a strength (1 to 9).")
    static void strengthsAre1To9() {
        due("the least", faded(2, 1), 1);
        due("none below", faded(1, 1), 0);
        due("the most", grown(1, 9), 9);
        due("none above", grown(1, 10), 9);
    }

    @Sentence(of = "Songs, parrots",
            says = "To hear a bar: if the parrot has a last bar, the link from that one to this bar grows:")
    static void theFirstBarThatIsHeardMakesNoLink() {
        CountedSongs x = told("Sa;Sb;B;L0.0");
        due("no link", x.of(0, 0), 0);
        tell(x, "L0.1");
        due("from the one before", links(x, 0), "ab1*");
        tell(x, "H0;L0.0");
        due("hushed: no link", links(x, 0), "ab1*");
        tell(x, "L0.1");
        due("grows", links(x, 0), "ab2*");
    }

    @Sentence(of = "Songs, parrots", says = "it has GAIN more strength, but 9 at most;")
    static void linksGrowTo9AtMost() {
        int[][] strengths = {{8, 9, 9, 9}, {8, 9, 9, 9}, {6, 9, 9, 9}};
        int[][] times = {{8, 9, 10, 19}, {4, 5, 6, 19}, {2, 3, 4, 19}};
        for (int gain = 1; gain <= 3; gain++) {
            for (int i = 0; i < 4; i++) {
                due("gain " + gain + ", times " + times[gain - 1][i], grown(gain, times[gain - 1][i]), strengths[gain - 1][i]);
            }
        }
        for (int strength = 5; strength <= 9; strength++) {
            CountedSongs x = told("S" + "a".repeat(strength + 1) + ";Sa;B;L0.0");
            x.set(GAIN, 3);
            tell(x, "L0.1");
            due(strength + " and 3", x.link(0, 0, 2), Math.min(9, strength + 3));
        }
    }

    @Sentence(of = "Songs, parrots", says = "in both cases it is the freshest one then, and was heard today.")
    static void whatCantGrowAnyMoreIsTheFreshestYet() {
        CountedSongs x = told("Saaaaaaaaaa;Saz;B;L0.0;H0;L0.1;N");
        due("the strongest is not the freshest", links(x, 0), "az1 aa9");
        x.set(TIRE, 2);
        tell(x, "L0.0");
        due("heard, though it did not grow", links(x, 0), "aa9* az1");
    }

    @Sentence(of = "Songs, parrots", says = "if there is none, it comes, with the strength GAIN;")
    static void linksComeWithGain() {
        for (int gain = 1; gain <= 3; gain++) {
            due("with " + gain, grown(gain, 1), gain);
        }
    }

    @Sentence(of = "Songs, parrots", says = "in both cases it is the freshest one then, and was heard today.")
    static void whatGrowsOrComesIsTheFreshest() {
        CountedSongs x = told("Sabcd;Sab;Sda;B;L0.0;H0;L0.0;N");
        due("not heard today", links(x, 0), "cd2 bc2 ab2");
        tell(x, "L0.1");
        due("grows", links(x, 0), "ab3* cd2 bc2");
        tell(x, "H0;L0.2");
        due("comes", links(x, 0), "da1* ab3* cd2 bc2");
        tell(x, "H0;L0.0/1");
        due("the middle one and the last one", links(x, 0), "cd3* bc3* da1* ab3*");
        tell(x, "H0;L0.0/2");
        due("the freshest one already", links(x, 0), "cd4* bc3* da1* ab3*");
    }

    @Sentence(of = "Songs, parrots",
            says = "If there are more than SPAN links then (whether one came or only grew), one is forgotten:")
    static void asManyLinksAsSpanAreKept() {
        CountedSongs x = told("Sabcde;B");
        x.set(SPAN, 4);
        tell(x, "L0.0;H0;L0.0");
        due("links", links(x, 0), "de2* cd2* bc2* ab2*");
        due("forgotten", x.of(0, 5), 0);
    }

    @Sentence(of = "Songs, parrots", says = "If there are more than SPAN links then (whether one came")
    static void oneThatComesBeyondSpanLetsOneBeForgotten() {
        CountedSongs x = told("Sabcdef;B");
        x.set(SPAN, 4);
        tell(x, "L0.0");
        due("links", links(x, 0), "ef1* de1* cd1* bc1*");
        due("forgotten", x.of(0, 5), 1);
    }

    @Sentence(of = "Songs, parrots", says = "or only grew), one is forgotten:")
    static void oneThatGrowsBeyondSpanLetsOneBeForgotten() {
        CountedSongs x = told("Sabcdefg;Sab;B;L0.0;H0");
        x.set(SPAN, 4);
        tell(x, "L0.1;H0");
        due("five of six", links(x, 0), "ab2* fg1* ef1* de1* cd1*");
        tell(x, "L0.1;H0");
        due("four of five", links(x, 0), "ab3* fg1* ef1* de1*");
        tell(x, "L0.1;H0");
        due("four of four", links(x, 0), "ab4* fg1* ef1* de1*");
        due("forgotten", x.of(0, 5), 2);
    }

    @Sentence(of = "Songs, parrots", says = "one is forgotten: the one with the least strength,")
    static void theWeakestIsForgotten() {
        CountedSongs x = told("Sabcd;Sef;Szy;B;L0.0;H0;L0.0;H0;L0.1;H0");
        x.set(SPAN, 4);
        due("the weakest is the freshest", links(x, 0), "ef1* cd2* bc2* ab2*");
        tell(x, "L0.2");
        due("it goes", links(x, 0), "zy1* cd2* bc2* ab2*");
    }

    @Sentence(of = "Songs, parrots", says = "one is forgotten: the one with the least strength,")
    static void theOneThatCameOrGrewMayBeTheWeakest() {
        CountedSongs x = told("Sabcde;Szy;B;L0.0;H0;L0.0;H0");
        x.set(SPAN, 4);
        tell(x, "L0.1");
        due("zy came and is forgotten", links(x, 0), "de2* cd2* bc2* ab2*");
        due("forgotten", x.of(0, 5), 1);
        CountedSongs y = told("Sabcde;Szy;B;L0.1;H0;L0.0;H0;L0.0;H0;L0.0;H0");
        y.set(SPAN, 4);
        tell(y, "L0.1");
        due("zy grew and is forgotten", links(y, 0), "de3* cd3* bc3* ab3*");
        due("forgotten", y.of(0, 5), 1);
    }

    @Sentence(of = "Songs, parrots", says = "of these the one that is the least fresh.")
    static void ofTheWeakestTheLeastFreshIsForgotten() {
        CountedSongs x = told("Sab;Scd;Sef;Sgh;Szy;B;L0.0;H0;L0.0;H0;L0.1;H0;L0.2;H0;L0.3;H0");
        x.set(SPAN, 4);
        tell(x, "L0.4;H0");
        due("cd came ahead of ef, gh and zy", links(x, 0), "zy1* gh1* ef1* ab2*");
        tell(x, "L0.1;H0");
        due("ef is the least fresh then", links(x, 0), "cd1* zy1* gh1* ab2*");
        tell(x, "L0.3;H0;L0.2");
        due("gh grew: now it is zy", links(x, 0), "ef1* gh2* cd1* ab2*");
    }

    @Sentence(of = "Songs, parrots", says = "The bar is the last bar then, and is counted for today.")
    static void theLastBarAndTheBarsOfToday() {
        CountedSongs x = told("Sabcde;Szy;B;L0.0;H0;L0.0;H0");
        x.set(SPAN, 4);
        tell(x, "L0.1");
        due("though its link is forgotten", x.of(0, 2), 24);
        due("both count", x.of(0, 3), 12);
        tell(x, "N;L0.1/0");
        due("the first ones of a new day", x.of(0, 3), 2);
        tell(x, "H0");
        due("hushed", x.of(0, 3), 2);
    }

    @Sentence(of = "Songs, parrots", says = "A parrot that has heard TIRE bars today, or more, is tired:")
    static void tiredByTireBarsOrMore() {
        CountedSongs x = told("Sabc;Sx;B;B");
        x.set(TIRE, 4);
        tell(x, "L0.0");
        due("one less", x.count(7), 0);
        tell(x, "L0.1");
        due("as many", x.count(7), 1);
        x.set(TIRE, 3);
        due("more", x.count(7), 1);
        x.set(TIRE, 5);
        due("one less again", x.count(7), 0);
        x.set(TIRE, 1);
        due("none at all", x.count(7), 1);
        tell(x, "N");
        due("a new day", x.count(7), 0);
    }

    @Sentence(of = "Songs, parrots", says = "it hears no more.")
    static void aTiredParrotHearsNoMore() {
        CountedSongs x = told("Sabcd;B;B;L1.0");
        x.set(TIRE, 3);
        due("three of four", x.lesson(0, 0, 0), 3);
        due("links", links(x, 0), "bc1* ab1*");
        due("no lesson", x.lesson(0, 0, 0), NOT_POSSIBLE);
        due("no practice", x.practise(0, 1), NOT_POSSIBLE);
        x.set(TIRE, 5);
        tell(x, "H1;L1.0/0");
        x.set(TIRE, 6);
        due("one more", x.practise(1, 1), 1);
        due("heard by the other one", x.of(0, 3), 4);
    }

    // ---- Singing

    @Sentence(of = "Singing", says = "A parrot goes on from a bar by the strongest link from it,")
    static void byTheStrongestLink() {
        due("the least fresh one", told("Sab;Sac;B;L0.0;H0;L0.0;H0;L0.1").sings(0, 0, 1), 1);
        due("the freshest one", told("Sab;Sac;B;L0.0;H0;L0.1;H0;L0.1").sings(0, 0, 1), 2);
        due("the middle one", told("Sab;Sac;Sad;B;L0.0;H0;L0.1;H0;L0.1;H0;L0.2").sings(0, 0, 1), 2);
        due("links from other bars do not matter", told("Sab;Sbc;B;L0.0;H0;L0.1;H0;L0.1").sings(0, 0, 1), 1);
        due("nor those to it", told("Sba;Sac;B;L0.0;H0;L0.0;H0;L0.1").sings(0, 0, 1), 2);
    }

    @Sentence(of = "Singing", says = "of as strong ones by the freshest one;")
    static void ofAsStrongOnesByTheFreshest() {
        due("the one that came last", told("Sab;Sac;B;L0.0;H0;L0.1").sings(0, 0, 1), 2);
        due("the one that grew last", told("Sab;Sac;B;L0.0;H0;L0.1;H0;L0.1;H0;L0.0").sings(0, 0, 1), 1);
        due("the last of three", told("Sab;Sac;Sad;B;L0.2;H0;L0.0;H0;L0.1").sings(0, 0, 1), 2);
    }

    @Sentence(of = "Singing", says = "without a link from it, it stops.")
    static void itStopsWithoutALink() {
        CountedSongs x = told("Sab;Scd;B;B;L0.0;H0;L0.1");
        due("from a", x.sings(0, 0, 1), 1);
        due("from b", x.sings(0, 1, 1), NONE);
        due("behind b", x.sings(0, 0, 2), NONE);
        due("no links at all", x.sings(1, 0, 1), NONE);
        due("no practice", x.practise(0, 9), 0);
    }

    @Sentence(of = "Singing",
            says = "It knows a song by so many bars as are right, one after the other, behind the first one, "
            + "when it goes on from the first bar of the song;")
    static void rightBarsUpToTheFirstWrongOne() {
        CountedSongs x = told("Sabcd;Saxcd;B;L0.1");
        due("c and d are right, but behind a wrong one", x.knows(0, 0), 0);
        due("the other song", x.knows(0, 1), 100);
        CountedSongs y = told("Sabcdefg;Sabxdefg;B;L0.0;H0;L0.1");
        due("b only", y.knows(0, 0), 16);
        due("all", y.knows(0, 1), 100);
        due("b comes from a, not from the start", told("Sab;Scb;B;L0.1").knows(0, 0), 0);
    }

    @Sentence(of = "Singing", says = "in hundredths: 100 * these / (the bars of the song less 1),")
    static void hundredthsOfTheBarsBehindTheFirst() {
        for (int bars = 2; bars <= 20; bars++) {
            due("none of " + bars, hundredths(0, bars), 0);
            due("all but one of " + bars, hundredths(bars - 2, bars), 100 * (bars - 2) / (bars - 1));
            due("all of " + bars, hundredths(bars - 1, bars), 100);
        }
    }

    @Sentence(of = "Singing", says = "and 100 for a song of one bar.")
    static void aSongOfOneBarIsKnown() {
        CountedSongs x = told("Sa;Sz;B;B;L1.0;L1.1;L1.0");
        due("by a new parrot", x.knows(0, 0), 100);
        due("by one that goes on behind it", x.knows(1, 0), 100);
        due("the last letter", x.knows(1, 1), 100);
    }
}
