/** The sentences of the promises 1 to 7: a new object, and the changes. */
final class ChangeEdges extends Edges {
    private ChangeEdges() {
    }

    // ---- 1: a new object

    @Sentence(of = "Promise 1", says = "Creates a house without songs and parrots, on the day 0.")
    static void aNewObjectIsEmpty() {
        CountedSongs x = new CountedSongs();
        int[] first = {0, 0, 0, 0, 0, 0, 0, 0, 24, 1, 1, 20, 0, 0};
        for (int what = 0; what < first.length; what++) {
            due("count " + what, x.count(what), first[what]);
        }
        due("song 0", x.ofSong(0, 0), NO_SUCH);
        due("bar", x.bar(0, 0), NO_SUCH);
        due("parrot 0", x.of(0, 0), NO_SUCH);
        due("link", x.link(0, 0, 0), NO_SUCH);
        due("rhymes", x.rhymes(0, 0), NO_SUCH);
        due("undo", x.undo(), NOT_POSSIBLE);
        due("slot 0", x.restore(0), NOT_POSSIBLE);
        due("slot 1", x.restore(1), NOT_POSSIBLE);
        due("pad", x.wipe(), 0);
    }

    @Sentence(of = "Promise 1", says = "Creates a house without songs and parrots")
    static void objectsHaveNothingInCommon() {
        CountedSongs x = told("Sab;B;L0.0;N");
        x.set(SPAN, 4);
        x.save(0);
        x.put('B');
        CountedSongs y = new CountedSongs();
        due("all of a new one", seen(y) + y.count(12) + y.count(13), "0 0 0 0 0 0 0 0 24 1 1 20 00");
        due("slot", y.restore(0), NOT_POSSIBLE);
    }

    // ---- 2: set

    @Sentence(of = "Promise 2", says = "Changes a setting (no link is forgotten by that).")
    static void noLinkIsForgottenBySet() {
        CountedSongs x = told("Sabcdef;B;L0.0");
        String links = links(x, 0);
        due("five links, four to keep", x.set(SPAN, 4), 24);
        due("links", links(x, 0), links);
        due("forgotten", x.of(0, 5), 0);
        due("forgotten by all", x.count(6), 0);
        due("nor by the night", x.night(), 0);
        due("links", x.of(0, 0), 5);
    }

    @Sentence(of = "Promise 2", says = "Changes a setting")
    static void theOtherSettingsStay() {
        for (int setting = 0; setting < 4; setting++) {
            CountedSongs x = new CountedSongs();
            int[] values = {24, 1, 1, 20};
            x.set(setting, values[setting] + (setting == 0 ? -20 : 1));
            values[setting] += setting == 0 ? -20 : 1;
            for (int i = 0; i < 4; i++) {
                due("setting " + i, x.count(8 + i), values[i]);
            }
        }
    }

    @Sentence(of = "Promise 2", says = "This is a change.")
    static void setIsAChange() {
        CountedSongs x = new CountedSongs();
        x.set(TIRE, 60);
        due("recorded", x.count(13), 1);
        x.set(TIRE, 60);
        due("the same value is recorded, too", x.count(13), 2);
        x.set(TIRE, 61);
        due("an error is not", x.count(13), 2);
        x.undo();
        due("undone", x.count(11), 60);
        x.undo();
        due("undone", x.count(11), 20);
    }

    @Sentence(of = "Promise 2", says = "Returns the previous value;")
    static void setReturnsThePreviousValue() {
        CountedSongs x = new CountedSongs();
        due("first", x.set(SPAN, 4), 24);
        due("then", x.set(SPAN, 60), 4);
        due("and then", x.set(SPAN, 60), 60);
        due("0 is a value", x.set(FADE, 0), 1);
        due("0 was a value", x.set(FADE, 3), 0);
    }

    @Sentence(of = "Promise 2", says = "BAD_VALUE if there is no such setting,")
    static void settingsAre0To3() {
        dueRange(CountedSongs::new, 0, 3, (x, setting) -> x.set(setting, setting == 0 ? 5 : 2));
        due("4 with a value of SPAN", new CountedSongs().set(4, 24), BAD_VALUE);
    }

    @Sentence(of = "Promise 2", says = "or the value is out of its range.")
    static void eachSettingHasItsRange() {
        int[][] ranges = {{4, 60}, {0, 3}, {1, 3}, {1, 60}};
        for (int i = 0; i < 4; i++) {
            int setting = i;
            dueRange(CountedSongs::new, ranges[i][0], ranges[i][1], (x, value) -> x.set(setting, value));
        }
    }

    // ---- 3: parrot

    @Sentence(of = "Promise 3", says = "A parrot comes, with an empty memory.")
    static void aNewParrotKnowsNothing() {
        CountedSongs x = told("Sab;Sc;B;L0.0");
        due("number", x.parrot(), 1);
        int[] first = {0, 0, NONE, 0, 0, 0, 2};
        for (int what = 0; what < first.length; what++) {
            due("of " + what, x.of(1, what), first[what]);
        }
        due("link", x.link(1, 0, 0), NO_SUCH);
        due("song", x.knows(1, 0), 0);
    }

    @Sentence(of = "Promise 3", says = "with an empty memory")
    static void aParrotThatComesAnewKnowsNothing() {
        CountedSongs x = told("Sab;Szy", "B", "L0.0;N;L0.1;L0.0");
        x.save(0);
        x.undo();
        x.undo();
        due("comes anew", x.parrot(), 0);
        int[] first = {0, 0, NONE, 0, 0, 0, 0};
        for (int what = 0; what < first.length; what++) {
            due("of " + what, x.of(0, what), first[what]);
        }
        CountedSongs y = told("Sab");
        y.save(0);
        tell(y, "B;B;L1.0;L0.0");
        due("none in the slot", y.restore(0), 1);
        due("comes anew", y.parrot(), 0);
        due("comes anew", y.parrot(), 1);
        due("its links", y.of(1, 0), 0);
        due("its last bar", y.of(1, 2), NONE);
        due("its bars", y.of(0, 4), 0);
    }

    @Sentence(of = "Promise 3", says = "This is a change.")
    static void parrotIsAChange() {
        CountedSongs x = told("B;B;B");
        x.parrot();
        due("recorded", x.count(13), 2);
        x.parrot();
        due("an error is not", x.count(13), 2);
        x.undo();
        due("undone", x.count(2), 3);
        due("and comes again", x.parrot(), 3);
    }

    @Sentence(of = "Promise 3", says = "Returns its number; TOO_MANY if there are 4.")
    static void theFifthParrotIsOneTooMany() {
        CountedSongs x = new CountedSongs();
        for (int i = 0; i < 4; i++) {
            due("number", x.parrot(), i);
        }
        due("the fifth", x.parrot(), TOO_MANY);
        due("once more", x.parrot(), TOO_MANY);
        due("parrots", x.count(2), 4);
    }

    // ---- 4: lesson

    @Sentence(of = "Promise 4", says = "A parrot hears a song from a bar on, bar by bar,")
    static void aLessonFromABarOn() {
        for (int from = 0; from < 4; from++) {
            CountedSongs x = told("Sabcd;B;B");
            due("bars", x.lesson(0, 0, from), 4 - from);
            due("links", links(x, 0), new String[] {"cd1* bc1* ab1*", "cd1* bc1*", "cd1*", ""}[from]);
            due("today", x.of(0, 3), 4 - from);
            due("last bar", x.of(0, 2), 3);
            due("the other parrot", x.of(1, 3), 0);
        }
    }

    @Sentence(of = "Promise 4", says = "until the song ends, or the parrot is tired.")
    static void tiredAroundTheLastBar() {
        for (int tire = 1; tire <= 6; tire++) {
            CountedSongs x = told("Sabcd;Sz;B");
            x.set(TIRE, tire);
            due("bars with " + tire, x.lesson(0, 0, 0), Math.min(4, tire));
            due("last bar with " + tire, x.of(0, 2), Math.min(4, tire) - 1);
            due("tired with " + tire, x.count(7), tire <= 4 ? 1 : 0);
            due("one more with " + tire, x.lesson(0, 1, 0), tire <= 4 ? NOT_POSSIBLE : 1);
        }
    }

    @Sentence(of = "Promise 4", says = "This is a change.")
    static void lessonIsAChange() {
        CountedSongs x = told("Sab;B");
        String before = seen(x);
        due("lesson", x.lesson(0, 0, 0), 2);
        due("recorded", x.count(13), 2);
        due("no lesson", x.lesson(0, 0, 2), BAD_VALUE);
        due("an error is not", x.count(13), 2);
        due("undo", x.undo(), 1);
        due("all", seen(x), before);
    }

    @Sentence(of = "Promise 4", says = "`from`: 0 or more")
    static void fromIsAtLeast0() {
        CountedSongs x = told("Sab;B");
        due("-1", x.lesson(0, 0, -1), BAD_VALUE);
        due("far below", x.lesson(0, 0, LEAST), BAD_VALUE);
        due("0", x.lesson(0, 0, 0), 2);
    }

    @Sentence(of = "Promise 4", says = "Returns how many bars it hears;")
    static void lessonReturnsTheBars() {
        CountedSongs x = told("S" + TWENTY + ";Sa;B;B");
        due("one of one", x.lesson(0, 1, 0), 1);
        due("nineteen of twenty", x.lesson(0, 0, 0), 19);
        due("twenty of twenty", x.lesson(1, 0, 0), 20);
    }

    @Sentence(of = "Promise 4", says = "NO_SUCH if there is no such parrot or song;")
    static void lessonForAParrotOfASong() {
        dueParrots((x, parrot) -> x.lesson(parrot, 0, 0));
        dueSongs((x, song) -> x.lesson(0, song, 0));
    }

    @Sentence(of = "Promise 4", says = "BAD_VALUE if the song has no bar with the index from;")
    static void lessonFromBehindTheLastBar() {
        for (int bars : new int[] {1, 2, 19, 20}) {
            dueRange(() -> told("S" + TWENTY + ";S" + TWENTY.substring(0, bars) + ";B"), 0, bars - 1,
                    (x, from) -> x.lesson(0, 1, from));
        }
    }

    @Sentence(of = "Promise 4", says = "NOT_POSSIBLE if the parrot is tired.")
    static void noLessonForATiredOne() {
        CountedSongs x = told("Sabc;Sx;B");
        x.set(TIRE, 4);
        tell(x, "L0.0");
        due("one bar less", x.lesson(0, 1, 0), 1);
        due("as many", x.lesson(0, 1, 0), NOT_POSSIBLE);
        due("lessons", x.count(3), 2);
        x.set(TIRE, 5);
        due("one bar less", x.lesson(0, 1, 0), 1);
        x.set(TIRE, 4);
        due("more", x.lesson(0, 1, 0), NOT_POSSIBLE);
        x.night();
        due("another day", x.lesson(0, 0, 0), 3);
    }

    @Sentence(of = "Promise 4",
            says = "NO_SUCH if there is no such parrot or song; BAD_VALUE if the song has no bar with the index from; "
            + "NOT_POSSIBLE if the parrot is tired.")
    static void errorsOfLessonInTheirOrder() {
        CountedSongs x = told("Sab;B;L0.0");
        x.set(TIRE, 2);
        due("no parrot, no song, no bar", x.lesson(1, 1, 2), NO_SUCH);
        due("no parrot, no bar", x.lesson(1, 0, 2), NO_SUCH);
        due("no song, below, tired", x.lesson(0, 1, -1), NO_SUCH);
        due("no song below 0, tired", x.lesson(0, -1, 0), NO_SUCH);
        due("no bar, tired", x.lesson(0, 0, 2), BAD_VALUE);
        due("below, tired", x.lesson(0, 0, -1), BAD_VALUE);
        due("tired", x.lesson(0, 0, 1), NOT_POSSIBLE);
    }

    // ---- 5: hush

    @Sentence(of = "Promise 5", says = "A parrot is hushed: it has no last bar any more.")
    static void aHushedParrotHasNoLastBar() {
        CountedSongs x = told("Sab;B;B;L0.0;L1.0;H0");
        due("last bar", x.of(0, 2), NONE);
        due("the other one", x.of(1, 2), 1);
        due("no practice", x.practise(0, 1), NOT_POSSIBLE);
        due("a lesson", x.lesson(0, 0, 0), 2);
        due("no link from b to a", links(x, 0), "ab2*");
        due("today", x.of(0, 3), 4);
    }

    @Sentence(of = "Promise 5", says = "This is a change.")
    static void hushIsAChange() {
        CountedSongs x = told("Sab;B;L0.0");
        x.hush(0);
        x.hush(0);
        due("recorded, the second one, too", x.count(13), 3);
        x.hush(1);
        due("an error is not", x.count(13), 3);
        x.undo();
        due("hushed yet", x.of(0, 2), NONE);
        x.undo();
        due("undone", x.of(0, 2), 1);
    }

    @Sentence(of = "Promise 5", says = "Returns the last bar that it had (NONE);")
    static void hushReturnsTheLastBar() {
        CountedSongs x = told("Sa;Sz;B");
        due("never heard anything", x.hush(0), NONE);
        tell(x, "L0.0");
        due("a", x.hush(0), 0);
        due("once more", x.hush(0), NONE);
        tell(x, "L0.1");
        due("z", x.hush(0), 25);
        tell(x, "L0.1;N");
        due("behind a night", x.hush(0), NONE);
    }

    @Sentence(of = "Promise 5", says = "NO_SUCH if there is no such parrot.")
    static void hushOfAParrot() {
        dueParrots((x, parrot) -> x.hush(parrot));
    }

    // ---- 6: practise

    @Sentence(of = "Promise 6",
            says = "A parrot practises: it goes on from its last bar, for so many bars, or until it stops.")
    static void practiceEndsWithTheBarsOrTheLinks() {
        for (int bars = 1; bars <= 5; bars++) {
            CountedSongs x = told("Sabcd;Sa;B;L0.0;H0;L0.1");
            due("bars of " + bars, x.practise(0, bars), Math.min(3, bars));
            due("last bar of " + bars, x.of(0, 2), Math.min(3, bars));
            due("heard of " + bars, x.of(0, 3), 5 + Math.min(3, bars));
        }
        CountedSongs x = told("Sabcd;B;L0.0");
        due("stops at once", x.practise(0, 40), 0);
        due("links", links(x, 0), "cd1* bc1* ab1*");
        due("last bar", x.of(0, 2), 3);
    }

    @Sentence(of = "Promise 6", says = "Which bars these are is found first, by its memory as it is;")
    static void whatIsForgottenInPracticeIsSungYet() {
        CountedSongs x = told("Sabcdefg;Sa;B;L0.0;N;L0.1");
        x.set(SPAN, 4);
        due("each link is forgotten just before it is heard", x.practise(0, 40), 6);
        due("last bar", x.of(0, 2), 6);
        due("forgotten", x.of(0, 5), 6);
    }

    @Sentence(of = "Promise 6", says = "then it hears them itself, one after the other, as far as it is not tired;")
    static void theSingerHearsUntilItIsTired() {
        for (int tire = 5; tire <= 9; tire++) {
            CountedSongs x = told("Sabcd;Sa;B;L0.0;L0.1");
            x.set(TIRE, tire);
            int heard = tire == 5 ? 0 : Math.min(3, tire - 5);
            due("sings with " + tire, x.practise(0, 3), tire == 5 ? NOT_POSSIBLE : 3);
            due("today with " + tire, x.of(0, 3), 5 + heard);
            due("last bar with " + tire, x.of(0, 2), heard);
            due("tired with " + tire, x.count(7), tire <= 8 ? 1 : 0);
        }
    }

    @Sentence(of = "Promise 6", says = "then each other parrot, by numbers, hears them, as far as it is not tired.")
    static void eachOtherParrotHearsUntilItIsTired() {
        for (int singer = 0; singer < 4; singer++) {
            CountedSongs x = told("Sabcd;Sa;Sz;B;B;B;B");
            int[] ahead = new int[4];
            for (int other = 0; other < 4; other++) {
                ahead[other] = other == singer ? 5 : 2 + other;
                for (int i = 0; i < 2 + other && other != singer; i++) {
                    x.lesson(other, 2, 0);
                }
            }
            x.lesson(singer, 0, 0);
            x.lesson(singer, 1, 0);
            x.set(TIRE, 6);
            due("sings", x.practise(singer, 3), 3);
            for (int other = 0; other < 4; other++) {
                int heard = Math.min(3, Math.max(0, 6 - ahead[other]));
                due("heard by " + other, x.of(other, 3), ahead[other] + heard);
                due("last bar of " + other, x.of(other, 2), heard > 0 ? heard : 25);
            }
        }
    }

    @Sentence(of = "Promise 6", says = "then each other parrot, by numbers, hears them")
    static void othersHearBehindTheirOwnLastBar() {
        CountedSongs x = told("Sabcd;Sa;Sz;B;B;B;L1.0;H1;L1.1;L0.2");
        due("sings b c d", x.practise(1, 3), 3);
        due("behind z", links(x, 0), "cd1* bc1* zb1*");
        due("behind nothing", links(x, 2), "cd1* bc1*");
        due("itself", links(x, 1), "cd2* bc2* ab2*");
        due("no lesson", x.count(3), 3);
    }

    @Sentence(of = "Promise 6", says = "then it hears them itself, one after the other,")
    static void practiceIsHeardAsALessonIs() {
        CountedSongs x = told("Sabc;Sa;Svwxyz;B;B;L0.0;H0;L1.2;H1;L0.1");
        x.set(GAIN, 3);
        x.set(SPAN, 4);
        due("sings b c", x.practise(0, 2), 2);
        due("two links grow by GAIN", links(x, 0), "bc4* ab4*");
        due("one comes with GAIN, and one beyond SPAN is forgotten", links(x, 1), "bc3* yz1* xy1* wx1*");
    }

    @Sentence(of = "Promise 6", says = "This is a change.")
    static void practiseIsAChange() {
        CountedSongs x = told("Sabc;Sa;B;B;L0.0;L0.1");
        String before = seen(x);
        due("sings", x.practise(0, 9), 9);
        due("recorded", x.count(13), 2);
        due("undo", x.undo(), 1);
        due("all", seen(x), before);
        tell(x, "H0;L0.0/2");
        CountedSongs y = told("Sab;B;L0.0");
        due("no bar", y.practise(0, 9), 0);
        due("recorded, too", y.count(13), 2);
        due("too many bars", y.practise(0, 41), BAD_VALUE);
        due("an error is not", y.count(13), 2);
    }

    /** A parrot that sings without an end. */
    private static CountedSongs round() {
        CountedSongs x = told("Saba;B;L0.0");
        x.set(TIRE, 60);
        return x;
    }

    @Sentence(of = "Promise 6", says = "`bars`: 1 to 40")
    static void practiceOf1To40Bars() {
        for (int bars = 1; bars <= 40; bars++) {
            CountedSongs x = round();
            due("" + bars, x.practise(0, bars), bars);
            due("heard of " + bars, x.of(0, 3), 3 + bars);
        }
        for (int wrong : new int[] {LEAST, -40, -1, 0, 41, 296, MOST}) {
            due("" + wrong, round().practise(0, wrong), BAD_VALUE);
        }
    }

    @Sentence(of = "Promise 6", says = "Returns how many bars it sings;")
    static void practiseReturnsTheBarsThatAreSung() {
        CountedSongs x = told("Saba;B;B;L0.0");
        x.set(TIRE, 4);
        due("sings forty", x.practise(0, 40), 40);
        due("hears one", x.of(0, 3), 4);
        due("the other one hears four", x.of(1, 3), 4);
        due("none", told("Sab;B;L0.0").practise(0, 40), 0);
    }

    @Sentence(of = "Promise 6", says = "NO_SUCH if there is no such parrot;")
    static void practiceOfAParrot() {
        dueParrots((x, parrot) -> x.practise(parrot, 1));
    }

    @Sentence(of = "Promise 6", says = "BAD_VALUE if bars is out of range;")
    static void practiceOutOfRange() {
        dueRange(ChangeEdges::round, 1, 40, (x, bars) -> x.practise(0, bars));
    }

    @Sentence(of = "Promise 6", says = "NOT_POSSIBLE if it has no last bar,")
    static void noPracticeWithoutALastBar() {
        CountedSongs x = told("Saba;B;B;L0.0");
        due("never heard anything", x.practise(1, 1), NOT_POSSIBLE);
        tell(x, "H0");
        due("hushed", x.practise(0, 1), NOT_POSSIBLE);
        tell(x, "L0.0/2");
        due("one bar is enough", x.practise(0, 1), 1);
        due("and has taught the other one", x.practise(1, 1), 0);
        tell(x, "N");
        due("behind a night", x.practise(0, 1), NOT_POSSIBLE);
    }

    @Sentence(of = "Promise 6", says = "or is tired.")
    static void noPracticeOfATiredOne() {
        CountedSongs x = told("Saba;B;L0.0");
        x.set(TIRE, 4);
        due("one bar less", x.practise(0, 1), 1);
        due("as many", x.practise(0, 1), NOT_POSSIBLE);
        x.set(TIRE, 3);
        due("more", x.practise(0, 1), NOT_POSSIBLE);
        x.set(TIRE, 5);
        due("one bar less", x.practise(0, 1), 1);
    }

    @Sentence(of = "Promise 6", says = "NO_SUCH if there is no such parrot; BAD_VALUE if bars is out of range; "
            + "NOT_POSSIBLE if it has no last bar, or is tired.")
    static void errorsOfPractiseInTheirOrder() {
        CountedSongs x = told("Sab;B;B;L0.0");
        x.set(TIRE, 2);
        due("no parrot, no bars", x.practise(2, 0), NO_SUCH);
        due("no parrot, too many bars", x.practise(-1, 41), NO_SUCH);
        due("no bars, tired", x.practise(0, 0), BAD_VALUE);
        due("too many bars, tired", x.practise(0, 41), BAD_VALUE);
        due("no bars, no last bar", x.practise(1, 0), BAD_VALUE);
        due("too many bars, no last bar", x.practise(1, 41), BAD_VALUE);
        due("tired", x.practise(0, 40), NOT_POSSIBLE);
        due("no last bar", x.practise(1, 40), NOT_POSSIBLE);
        tell(x, "H0");
        due("tired, and no last bar", x.practise(0, 1), NOT_POSSIBLE);
    }

    // ---- 7: night

    @Sentence(of = "Promise 7",
            says = "A night passes: each link that was not heard in the day that ends has FADE less strength,")
    static void onlyWhatWasNotHeardFades() {
        CountedSongs x = told("Sabcd;Sbc;B;L0.0;H0;L0.0;H0;L0.0;N;L0.1");
        due("heard", links(x, 0), "bc4* cd3 ab3");
        due("night", x.night(), 0);
        due("the others fade", links(x, 0), "bc4 cd2 ab2");
        x.set(FADE, 0);
        due("night", x.night(), 0);
        due("by 0", links(x, 0), "bc4 cd2 ab2");
        x.set(FADE, 1);
        due("night", x.night(), 0);
        due("by 1", links(x, 0), "bc3 cd1 ab1");
        x.set(FADE, 2);
        due("night", x.night(), 2);
        due("by 2", links(x, 0), "bc1");
    }

    @Sentence(of = "Promise 7", says = "and is forgotten if that is below 1;")
    static void forgottenBelow1() {
        String[] left = {"gh4 ef3 cd2 ab1", "gh3 ef2 cd1", "gh2 ef1", "gh1"};
        for (int fade = 0; fade <= 3; fade++) {
            CountedSongs x = told("Sab;Scd;Sef;Sgh;B");
            for (int song = 0; song < 4; song++) {
                for (int times = 0; times <= song; times++) {
                    x.lesson(0, song, 0);
                    x.hush(0);
                }
            }
            x.set(FADE, fade);
            due("all were heard", x.night(), 0);
            due("forgotten by " + fade, x.night(), fade);
            due("left by " + fade, links(x, 0), left[fade]);
            due("forgotten so far by " + fade, x.of(0, 5), fade);
        }
    }

    @Sentence(of = "Promise 7", says = "then no parrot has a last bar,")
    static void noLastBarBehindANight() {
        CountedSongs x = told("Sab;B;B;B;B;L0.0;L1.0;L3.0;N");
        for (int parrot = 0; parrot < 4; parrot++) {
            due("last bar", x.of(parrot, 2), NONE);
        }
        tell(x, "L3.0");
        due("no link from the evening to the morning", links(x, 3), "ab2*");
    }

    @Sentence(of = "Promise 7", says = "or has heard anything today.")
    static void nothingHeardBehindANight() {
        CountedSongs x = told("Sab;B;B;B;B;L0.0;L1.0;L3.0");
        x.set(TIRE, 2);
        due("tired", x.count(7), 11);
        x.night();
        due("none is tired", x.count(7), 0);
        for (int parrot = 0; parrot < 4; parrot++) {
            due("today", x.of(parrot, 3), 0);
            due("so far", x.of(parrot, 4), parrot == 2 ? 0 : 2);
        }
        due("not heard today", links(x, 3), "ab1");
    }

    @Sentence(of = "Promise 7", says = "This is a change.")
    static void nightIsAChange() {
        CountedSongs x = told("Sab;B;L0.0;N;L0.0");
        String before = seen(x);
        x.night();
        x.night();
        due("recorded", x.count(13), 3);
        x.undo();
        x.undo();
        due("undone", seen(x), before);
        CountedSongs y = new CountedSongs();
        y.night();
        due("of an empty house, too", y.count(13), 1);
    }

    @Sentence(of = "Promise 7", says = "Returns how many links are forgotten;")
    static void nightReturnsTheLinksThatAreForgotten() {
        CountedSongs x = told("Sabc;B;B;B;B;L0.0;L1.0/1;L3.0");
        due("all were heard", x.night(), 0);
        due("two, one, none and two", x.night(), 5);
        due("forgotten so far", x.count(6), 5);
        due("none is left", x.night(), 0);
        due("forgotten so far", x.count(6), 5);
        due("no parrots", new CountedSongs().night(), 0);
    }

    @Sentence(of = "Promise 7", says = "NOT_POSSIBLE if there have been 999 nights.")
    static void the999thNightIsTheLastOne() {
        CountedSongs x = TermsEdges.oldHouse();
        due("nights", x.count(0), 999);
        due("the 1000th", x.night(), NOT_POSSIBLE);
        due("as an order", Check.tell(x, "N;B"), 0);
        due("nights", x.count(0), 999);
        due("parrots", x.count(2), 0);
        x.undo();
        x.undo();
        due("nights", x.count(0), 960);
        tell(x, "N" + ";N".repeat(37));
        due("the 999th", x.night(), 0);
        due("the 1000th", x.night(), NOT_POSSIBLE);
        due("nights", x.count(0), 999);
    }
}
