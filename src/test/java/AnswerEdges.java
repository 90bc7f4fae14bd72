/** The sentences of the promises 8 to 20: what there is, and what if. */
final class AnswerEdges extends Edges {
    private AnswerEdges() {
    }

    // ---- 8: ofSong

    @Sentence(of = "Promise 8", says = "Returns something about a song. - `what`: 0 its bars, how many,")
    static void barsOfSongs() {
        for (int bars = 1; bars <= 20; bars++) {
            due("" + bars, told("Sz;S" + "a".repeat(bars)).ofSong(1, 0), bars);
        }
    }

    @Sentence(of = "Promise 8", says = "1 unlike bars, how many,")
    static void unlikeBarsOfSongs() {
        due("one of one", told("Sz").ofSong(0, 1), 1);
        due("one of twenty", told("S" + "a".repeat(20)).ofSong(0, 1), 1);
        due("twenty of twenty", told("S" + TWENTY).ofSong(0, 1), 20);
        due("a and z", told("Sazazza").ofSong(0, 1), 2);
        for (int bars = 1; bars <= 20; bars++) {
            due("" + bars, told("Szz;S" + TWENTY.substring(0, bars)).ofSong(1, 1), bars);
        }
    }

    @Sentence(of = "Promise 8", says = "2 its first bar, 3 its last one,")
    static void firstAndLastBarsOfSongs() {
        CountedSongs x = told("Sq;Szya;S" + TWENTY);
        int[][] bars = {{16, 16}, {25, 0}, {0, 19}};
        for (int song = 0; song < 3; song++) {
            due("first of " + song, x.ofSong(song, 2), bars[song][0]);
            due("last of " + song, x.ofSong(song, 3), bars[song][1]);
        }
    }

    @Sentence(of = "Promise 8", says = "4 lessons with it so far,")
    static void lessonsWithSongs() {
        CountedSongs x = told("Sab;Scde;B;B");
        due("none", x.ofSong(0, 4), 0);
        tell(x, "L0.0;L1.0;L0.1/2");
        x.set(TIRE, 4);
        due("ends as it is tired", x.lesson(0, 1, 0), 1);
        due("refused", x.lesson(0, 1, 0), NOT_POSSIBLE);
        due("refused", x.lesson(0, 1, 3), BAD_VALUE);
        due("two", x.ofSong(0, 4), 2);
        due("two, however few bars", x.ofSong(1, 4), 2);
        due("no lesson", x.practise(1, 1), 0);
        x.lessonsFor(1, 0);
        x.bestLesson(1, 0);
        due("two", x.ofSong(0, 4), 2);
        x.undo();
        x.undo();
        due("one, one undone", x.ofSong(1, 4), 1);
    }

    @Sentence(of = "Promise 8", says = "5 parrots that know it by 100 hundredths, as a set")
    static void parrotsThatKnowSongs() {
        CountedSongs x = told("Sabc;Sz");
        due("no parrots", x.ofSong(1, 5), 0);
        tell(x, "B;B;B;B;L0.0;L1.0/1;L3.0");
        due("none of one bar only, nor of two", x.ofSong(0, 5), 9);
        due("one bar", x.ofSong(1, 5), 15);
        CountedSongs y = told("S" + TWENTY + ";B;B");
        y.set(TIRE, 19);
        y.lesson(0, 0, 0);
        due("94 hundredths", y.knows(0, 0), 94);
        due("are not enough", y.ofSong(0, 5), 0);
        y.set(TIRE, 20);
        y.lesson(0, 0, 19);
        due("100", y.ofSong(0, 5), 1);
    }

    @Sentence(of = "Promise 8", says = "Returns the number; NO_SUCH if there is no such song;")
    static void ofSongOfASong() {
        for (int what = 0; what <= 5; what++) {
            int asked = what;
            dueSongs((x, song) -> x.ofSong(song, asked));
        }
    }

    @Sentence(of = "Promise 8", says = "BAD_VALUE if what is out of range.")
    static void ofSongFrom0To5() {
        dueRange(() -> told("Sab;B"), 0, 5, (x, what) -> x.ofSong(0, what));
    }

    @Sentence(of = "Promise 8", says = "NO_SUCH if there is no such song; BAD_VALUE if what is out of range.")
    static void errorsOfOfSongInTheirOrder() {
        CountedSongs x = told("Sab");
        due("no song, what", x.ofSong(1, 6), NO_SUCH);
        due("no song, what below", x.ofSong(-1, -1), NO_SUCH);
        due("what", x.ofSong(0, 6), BAD_VALUE);
    }

    // ---- 9: bar

    @Sentence(of = "Promise 9", says = "Returns a bar of a song. Returns the bar;")
    static void barsByTheirIndex() {
        CountedSongs x = told("Sazbyc;S" + TWENTY);
        int[] bars = {0, 25, 1, 24, 2};
        for (int i = 0; i < bars.length; i++) {
            due("bar " + i, x.bar(0, i), bars[i]);
        }
        for (int i = 0; i < 20; i++) {
            due("bar " + i + " of twenty", x.bar(1, i), i);
        }
    }

    @Sentence(of = "Promise 9", says = "NO_SUCH if there is no such song,")
    static void barOfASong() {
        dueSongs((x, song) -> x.bar(song, 0));
    }

    @Sentence(of = "Promise 9", says = "or bar of it.")
    static void barsBehindTheLastOne() {
        for (int bars : new int[] {1, 2, 19, 20}) {
            CountedSongs x = told("S" + TWENTY + ";S" + TWENTY.substring(0, bars));
            due("the first one", x.bar(1, 0), 0);
            due("one ahead", x.bar(1, -1), NO_SUCH);
            due("the last one", x.bar(1, bars - 1), bars - 1);
            due("one behind", x.bar(1, bars), NO_SUCH);
            due("far ahead", x.bar(1, LEAST), NO_SUCH);
            due("far behind", x.bar(1, MOST), NO_SUCH);
        }
    }

    // ---- 10: of

    @Sentence(of = "Promise 10", says = "Returns something about a parrot. - `what`: 0 its links, how many,")
    static void linksOfParrots() {
        CountedSongs x = told("Sabab;B;B");
        due("none", x.of(0, 0), 0);
        tell(x, "L0.0");
        due("two, one of them heard twice", x.of(0, 0), 2);
        due("the other parrot", x.of(1, 0), 0);
        tell(x, "N;N");
        due("one is forgotten", x.of(0, 0), 1);
        tell(x, "N");
        due("none", x.of(0, 0), 0);
    }

    /** A parrot with sixty links of the strength 9, which are all that it may have. */
    private static CountedSongs full() {
        CountedSongs x = told("B;S" + TWENTY + ";Sacegikmoqsuwybdfhjln", "Sbehknqtwzcfiloruxadg;Szyzyzy");
        x.set(SPAN, 60);
        x.set(TIRE, 60);
        x.set(GAIN, 3);
        x.set(FADE, 0);
        for (int day = 0; day < 3; day++) {
            tell(x, "L0.0;L0.1;L0.2;N");
        }
        tell(x, "L0.3/4;H0;L0.3/4;H0;L0.3/4;H0");
        return x;
    }

    @Sentence(of = "Promise 10", says = "1 their strengths together,")
    static void strengthsOfParrots() {
        CountedSongs x = told("Sabab;B");
        due("none", x.of(0, 1), 0);
        tell(x, "L0.0");
        due("ab2 ba1", x.of(0, 1), 3);
        due("sixty times 9", full().of(0, 1), 540);
    }

    @Sentence(of = "Promise 10", says = "2 its last bar (NONE),")
    static void lastBarsOfParrots() {
        CountedSongs x = told("Sa;Sz;B;B");
        due("none", x.of(0, 2), NONE);
        tell(x, "L0.0");
        due("a", x.of(0, 2), 0);
        tell(x, "L0.1");
        due("z", x.of(0, 2), 25);
        due("the other parrot", x.of(1, 2), NONE);
        tell(x, "H0");
        due("hushed", x.of(0, 2), NONE);
    }

    @Sentence(of = "Promise 10", says = "3 bars that it heard today,")
    static void barsOfToday() {
        CountedSongs x = told("S" + TWENTY + ";Sab;B;B");
        due("none", x.of(0, 3), 0);
        x.set(TIRE, 60);
        tell(x, "L0.0;L0.0;L0.0;L1.1");
        due("sixty", x.of(0, 3), 60);
        due("two", x.of(1, 3), 2);
        tell(x, "H0");
        due("a hush takes none", x.of(0, 3), 60);
        tell(x, "N");
        due("a night takes all", x.of(0, 3), 0);
    }

    @Sentence(of = "Promise 10", says = "4 that it heard so far,")
    static void barsSoFar() {
        CountedSongs x = told("Saba;B;B");
        due("none", x.of(0, 4), 0);
        tell(x, "L0.0;N;L0.0;N");
        due("on both days", x.of(0, 4), 6);
        tell(x, "L1.0;P1*1");
        due("in practice, too", x.of(1, 4), 4);
        due("and by the other one", x.of(0, 4), 7);
    }

    @Sentence(of = "Promise 10", says = "5 links that it forgot so far,")
    static void linksThatAreForgotten() {
        CountedSongs x = told("Sabcdef;B;B;L1.0");
        x.set(SPAN, 4);
        due("none", x.of(0, 5), 0);
        tell(x, "L0.0");
        due("one beyond SPAN", x.of(0, 5), 1);
        tell(x, "N;N");
        due("four by night", x.of(0, 5), 5);
        due("five of the other parrot", x.of(1, 5), 5);
        tell(x, "L0.0");
        due("one that was forgotten once", x.of(0, 5), 6);
    }

    @Sentence(of = "Promise 10", says = "6 songs that it knows by 100 hundredths, as a set")
    static void songsThatAreKnown() {
        CountedSongs x = told("B");
        due("no songs", x.of(0, 6), 0);
        tell(x, "Sabc;Sz;Sbc;Sabd;Scb;Sabca;Sbbc;Sab");
        due("one bar", x.of(0, 6), 2);
        tell(x, "L0.0");
        due("and those of ab and bc", x.of(0, 6), 1 + 2 + 4 + 128);
    }

    @Sentence(of = "Promise 10", says = "Returns the number; NO_SUCH if there is no such parrot;")
    static void ofAParrot() {
        for (int what = 0; what <= 6; what++) {
            int asked = what;
            dueParrots((x, parrot) -> x.of(parrot, asked));
        }
    }

    @Sentence(of = "Promise 10", says = "BAD_VALUE if what is out of range.")
    static void ofFrom0To6() {
        dueRange(() -> told("Sab;B"), 0, 6, (x, what) -> x.of(0, what));
    }

    @Sentence(of = "Promise 10", says = "NO_SUCH if there is no such parrot; BAD_VALUE if what is out of range.")
    static void errorsOfOfInTheirOrder() {
        CountedSongs x = told("B");
        due("no parrot, what", x.of(1, 7), NO_SUCH);
        due("no parrot, what below", x.of(-1, -1), NO_SUCH);
        due("what", x.of(0, 7), BAD_VALUE);
    }

    // ---- 11: link

    @Sentence(of = "Promise 11",
            says = "Returns something about a link of a parrot. - `rank`: 0 for the freshest one, and so on")
    static void ranksByFreshness() {
        CountedSongs x = told("Sabcd;B;L0.0;H0;L0.0/1");
        due("bc and cd grew, ab did not", links(x, 0), "cd2* bc2* ab1*");
        CountedSongs full = full();
        due("the last one to come", full.link(0, 0, 0), 25);
        due("the first one to come", full.link(0, 59, 0), 0);
        due("no 61st", full.link(0, 60, 0), NO_SUCH);
    }

    @Sentence(of = "Promise 11", says = "- `what`: 0 the bar from which, 1 that to which it leads, 2 its strength,")
    static void whatIsAskedOfLinks() {
        CountedSongs x = told("Sazazazazazazazazazaz;B;L0.0");
        due("from z", x.link(0, 1, 0), 25);
        due("to a", x.link(0, 1, 1), 0);
        due("nine times", x.link(0, 1, 2), 9);
        due("from a", x.link(0, 0, 0), 0);
        due("to z", x.link(0, 0, 1), 25);
        due("ten times", x.link(0, 0, 2), 9);
        due("once", told("Sab;B;L0.0").link(0, 0, 2), 1);
    }

    @Sentence(of = "Promise 11", says = "3 whether it was heard today (1 or 0)")
    static void heardToday() {
        CountedSongs x = told("Sabc;B;L0.0;H0;L0.0;H0;L0.0");
        due("comes today", x.link(0, 1, 3), 1);
        tell(x, "N");
        due("yesterday", x.link(0, 1, 3), 0);
        tell(x, "L0.0/1");
        due("grows today", x.link(0, 0, 3), 1);
        due("did not", x.link(0, 1, 3), 0);
        tell(x, "H0");
        due("today yet", x.link(0, 0, 3), 1);
        x.set(FADE, 0);
        tell(x, "N");
        due("yesterday", x.link(0, 0, 3), 0);
    }

    @Sentence(of = "Promise 11", says = "Returns the number; NO_SUCH if there is no such parrot,")
    static void linkOfAParrot() {
        dueParrots((x, parrot) -> x.link(parrot, 0, 0));
    }

    @Sentence(of = "Promise 11", says = "or link;")
    static void linksBehindTheLastOne() {
        for (int bars = 1; bars <= 4; bars++) {
            CountedSongs x = told("S" + TWENTY.substring(0, bars) + ";S" + TWENTY + ";B;B;L0.0;L1.1");
            for (int rank : new int[] {LEAST, -2, -1, 0, 1, 2, 3, 4, 60, 61, MOST}) {
                boolean is = rank >= 0 && rank < bars - 1;
                holds(rank + " of " + (bars - 1), (x.link(0, rank, 2) == (is ? 1 : NO_SUCH)));
            }
        }
        CountedSongs x = told("Sab;B;L0.0;N;N");
        due("forgotten", x.link(0, 0, 0), NO_SUCH);
    }

    @Sentence(of = "Promise 11", says = "BAD_VALUE if what is out of range.")
    static void linkFrom0To3() {
        dueRange(() -> told("Sab;B;L0.0"), 0, 3, (x, what) -> x.link(0, 0, what));
    }

    @Sentence(of = "Promise 11",
            says = "NO_SUCH if there is no such parrot, or link; BAD_VALUE if what is out of range.")
    static void errorsOfLinkInTheirOrder() {
        CountedSongs x = told("Sab;B;L0.0");
        due("no parrot, what", x.link(1, 0, 4), NO_SUCH);
        due("no link, what", x.link(0, 1, 4), NO_SUCH);
        due("no link, what below", x.link(0, -1, -1), NO_SUCH);
        due("what", x.link(0, 0, 4), BAD_VALUE);
    }

    // ---- 12: sings

    @Sentence(of = "Promise 12",
            says = "Returns the bar that a parrot sings some bars behind a bar, if it goes on from that.")
    static void barsBehindABar() {
        CountedSongs x = told("Sabcd;Sz;B;L0.0;L0.1");
        for (int bar = 0; bar < 4; bar++) {
            for (int steps = 0; bar + steps < 4; steps++) {
                due(steps + " behind " + bar, x.sings(0, bar, steps), bar + steps);
            }
        }
        due("the last bar does not matter", x.sings(0, 2, 1), 3);
        due("the last one", x.sings(0, 3, 1), 25);
    }

    @Sentence(of = "Promise 12", says = "- `bar`: 0 to 25")
    static void singsFromBar0To25() {
        CountedSongs x = told("Saz;Sza;B;L0.0;L0.1");
        due("from a", x.sings(0, 0, 1), 25);
        due("from z", x.sings(0, 25, 1), 0);
        for (int wrong : new int[] {LEAST, -26, -1, 26, 51, 256, MOST}) {
            due("from " + wrong, x.sings(0, wrong, 0), BAD_VALUE);
            due("on from " + wrong, x.sings(0, wrong, 1), BAD_VALUE);
        }
        due("NONE is no bar", x.sings(0, NONE, 0), BAD_VALUE);
    }

    @Sentence(of = "Promise 12", says = "- `steps`: 0 to 99")
    static void sings0To99Steps() {
        CountedSongs x = told("Sabca;B;L0.0");
        for (int steps = 0; steps <= 99; steps++) {
            due("" + steps, x.sings(0, 0, steps), steps % 3);
        }
        for (int wrong : new int[] {LEAST, -99, -1, 100, 256, MOST}) {
            due("" + wrong, x.sings(0, 0, wrong), BAD_VALUE);
        }
    }

    @Sentence(of = "Promise 12", says = "(0: the bar itself)")
    static void zeroStepsBehindABar() {
        CountedSongs x = told("B");
        for (int bar = 0; bar <= 25; bar++) {
            due("" + bar, x.sings(0, bar, 0), bar);
        }
    }

    @Sentence(of = "Promise 12", says = "Returns the bar; NO_SUCH if there is no such parrot;")
    static void singsOfAParrot() {
        dueParrots((x, parrot) -> x.sings(parrot, 0, 1));
    }

    @Sentence(of = "Promise 12", says = "BAD_VALUE if bar or steps is out of range;")
    static void singsOutOfRange() {
        dueRange(() -> told("Sab;B;L0.0"), 0, 25, (x, bar) -> x.sings(0, bar, 99));
        dueRange(() -> told("Sab;B;L0.0"), 0, 99, (x, steps) -> x.sings(0, 25, steps));
    }

    @Sentence(of = "Promise 12", says = "NONE if it has stopped by then.")
    static void hasStoppedByThen() {
        CountedSongs x = told("Sabc;B;B;L0.0");
        due("the last bar", x.sings(0, 0, 2), 2);
        due("behind it", x.sings(0, 0, 3), NONE);
        due("far behind it", x.sings(0, 0, 99), NONE);
        due("at once", x.sings(0, 2, 1), NONE);
        due("a bar that was never heard", x.sings(0, 25, 1), NONE);
        due("no memory", x.sings(1, 0, 1), NONE);
    }

    @Sentence(of = "Promise 12",
            says = "NO_SUCH if there is no such parrot; BAD_VALUE if bar or steps is out of range; "
            + "NONE if it has stopped by then.")
    static void errorsOfSingsInTheirOrder() {
        CountedSongs x = told("B");
        due("no parrot, bar, steps", x.sings(1, 26, 100), NO_SUCH);
        due("no parrot, bar", x.sings(1, -1, 0), NO_SUCH);
        due("no parrot, steps", x.sings(-1, 0, -1), NO_SUCH);
        due("stops, steps", x.sings(0, 0, 100), BAD_VALUE);
        due("stops, bar", x.sings(0, 26, 1), BAD_VALUE);
    }

    // ---- 13: knows

    @Sentence(of = "Promise 13", says = "Tells how well a parrot knows a song. Returns the hundredths;")
    static void hundredthsFromNoneToAll() {
        CountedSongs x = told("Sabc;Sz;Sab;Sabab;Sbca;Sabca;B;B;L0.0");
        int[] hundredths = {100, 100, 100, 33, 50, 66};
        for (int song = 0; song < hundredths.length; song++) {
            due("song " + song, x.knows(0, song), hundredths[song]);
            due("song " + song + ", nothing heard", x.knows(1, song), song == 1 ? 100 : 0);
        }
    }

    @Sentence(of = "Promise 13", says = "NO_SUCH if there is no such parrot or song.")
    static void knowsOfAParrotAndASong() {
        dueParrots((x, parrot) -> x.knows(parrot, 0));
        dueSongs((x, song) -> x.knows(0, song));
    }

    // ---- 14: mistake

    @Sentence(of = "Promise 14",
            says = "Tells about the first mistake of a parrot, when it goes on from the first bar of a song. "
            + "- `what`: 0 the index of the bar in the song that is not right,")
    static void theFirstMistake() {
        for (int right = 0; right < 19; right++) {
            CountedSongs x = told("S" + TWENTY + ";B");
            x.set(TIRE, right + 1);
            x.lesson(0, 0, 0);
            due("behind " + right + " right ones", x.mistake(0, 0, 0), right + 1);
        }
        due("not a later one", told("Sabcde;Saxcye;B;L0.1").mistake(0, 0, 0), 1);
        due("the last bar", told("Sabcdx;Sabcdy;B;L0.1").mistake(0, 0, 0), 4);
    }

    @Sentence(of = "Promise 14", says = "1 the bar that it sings there (NONE if it stops),")
    static void theWrongBar() {
        due("a", told("Sbc;Sba;B;L0.1").mistake(0, 0, 1), 0);
        due("z", told("Sbc;Sbz;B;L0.1").mistake(0, 0, 1), 25);
        due("the first one of two", told("Sabcde;Saxcye;B;L0.1").mistake(0, 0, 1), 23);
        due("stops at once", told("Sab;B").mistake(0, 0, 1), NONE);
        due("stops ahead of the last bar", told("Sabc;Sab;B;L0.1").mistake(0, 0, 1), NONE);
    }

    @Sentence(of = "Promise 14", says = "2 songs in which that bar comes next behind the one ahead of it, as a set")
    static void songsFromWhichTheMistakeComes() {
        CountedSongs x = told("Sabc;Sxb;Sbx;Sqqbxq;Sbqx;Sabxb;Sb;Sxbbx;B;L0.5");
        due("b x instead of b c", x.mistake(0, 0, 1), 23);
        due("songs with b x", x.mistake(0, 0, 2), 4 + 8 + 32 + 128);
        CountedSongs y = told("Sabac;B;L0.0");
        due("a c comes in the song itself", y.mistake(0, 0, 2), 1);
        CountedSongs z = told("Sabc;Sab;Szd;B;L0.1;L0.2/1");
        due("b d comes in no song", z.mistake(0, 0, 1), 3);
        due("empty", z.mistake(0, 0, 2), 0);
        due("the first one and the last one", told("Sab;Sd;Se;Sf;Sg;Sh;Si;Sac;B;L0.7").mistake(0, 0, 2), 128);
    }

    @Sentence(of = "Promise 14", says = "(empty if it stops)")
    static void noSongsIfItStops() {
        due("stops at once", told("Sab;Sa;Sba;B").mistake(0, 0, 2), 0);
        due("stops behind b", told("Sabc;Sab;Sb;Sabd;B;L0.1").mistake(0, 0, 2), 0);
    }

    @Sentence(of = "Promise 14", says = "Returns the number; NO_SUCH if there is no such parrot or song;")
    static void mistakeOfAParrotInASong() {
        for (int what = 0; what <= 2; what++) {
            int asked = what;
            dueParrots((x, parrot) -> x.mistake(parrot, 0, asked));
            dueSongs((x, song) -> x.mistake(0, song, asked));
        }
    }

    @Sentence(of = "Promise 14", says = "BAD_VALUE if what is out of range;")
    static void mistakeFrom0To2() {
        dueRange(() -> told("Sab;B"), 0, 2, (x, what) -> x.mistake(0, 0, what));
    }

    @Sentence(of = "Promise 14", says = "NOT_POSSIBLE if it knows the song by 100 hundredths.")
    static void noMistakeInWhatIsKnown() {
        CountedSongs x = told("S" + TWENTY + ";Sz;B;B");
        x.set(TIRE, 19);
        x.lesson(0, 0, 0);
        due("94 hundredths", x.mistake(0, 0, 0), 19);
        x.set(TIRE, 20);
        x.lesson(0, 0, 19);
        for (int what = 0; what <= 2; what++) {
            due("100", x.mistake(0, 0, what), NOT_POSSIBLE);
            due("one bar", x.mistake(0, 1, what), NOT_POSSIBLE);
            due("one bar, no memory", x.mistake(1, 1, what), NOT_POSSIBLE);
        }
    }

    @Sentence(of = "Promise 14",
            says = "NO_SUCH if there is no such parrot or song; BAD_VALUE if what is out of range; "
            + "NOT_POSSIBLE if it knows the song by 100 hundredths.")
    static void errorsOfMistakeInTheirOrder() {
        CountedSongs x = told("Sz;B");
        due("no parrot, what", x.mistake(1, 0, 3), NO_SUCH);
        due("no song, what", x.mistake(0, 1, -1), NO_SUCH);
        due("what, known", x.mistake(0, 0, 3), BAD_VALUE);
        due("what below, known", x.mistake(0, 0, -1), BAD_VALUE);
        due("known", x.mistake(0, 0, 2), NOT_POSSIBLE);
    }

    // ---- 15: rhymes

    @Sentence(of = "Promise 15",
            says = "Tells by how many of their last bars two songs rhyme: the same ones, from the end on. "
            + "Returns how many;")
    static void sameBarsFromTheEndOn() {
        CountedSongs x = told("Sabcd;Sbcd;Sd;Scd;Sabxd;Sabcx;Sxbcd;Sdabcd");
        int[] rhymes = {4, 3, 1, 2, 1, 0, 3, 4};
        for (int song = 0; song < rhymes.length; song++) {
            due("0 and " + song, x.rhymes(0, song), rhymes[song]);
            due(song + " and 0", x.rhymes(song, 0), rhymes[song]);
        }
        due("one bar and itself", x.rhymes(2, 2), 1);
        due("a song that is the end of another", x.rhymes(3, 1), 2);
        CountedSongs y = told("S" + TWENTY, "S" + TWENTY + ";Sa" + TWENTY.substring(1) + ";Sz" + TWENTY.substring(1));
        due("twenty", y.rhymes(0, 1), 20);
        due("twenty", y.rhymes(1, 2), 20);
        due("all but the first", y.rhymes(2, 3), 19);
    }

    @Sentence(of = "Promise 15", says = "NO_SUCH if there is no such song.")
    static void rhymesOfTwoSongs() {
        dueSongs((x, song) -> x.rhymes(song, 0));
        dueSongs((x, song) -> x.rhymes(0, song));
        dueSongs((x, song) -> x.rhymes(song, song));
    }

    // ---- 16: follows

    @Sentence(of = "Promise 16", says = "Returns the songs with which a parrot goes on behind the last bar of a song: "
            + "those with the first bar to which it goes from there. Returns the songs, as a set")
    static void songsBehindASong() {
        CountedSongs x = told("Sab;Sca;Sbc;Scb;Sc;Sxb;Szc;Scz;B;L0.0;L0.1;L0.5");
        due("c behind b", x.follows(0, 0), 2 + 8 + 16 + 128);
        due("x behind a? b is fresher or as strong", x.follows(0, 1), 32);
        due("a behind c: one song", x.follows(0, 2), 1);
        due("of one bar", x.follows(0, 4), 1);
        due("another song with the last bar b", x.follows(0, 5), 154);
        due("itself", told("Sabc;Sb;B;L0.0;L0.0").follows(0, 0), 1);
        due("the strongest link counts", told("Sab;Sbc;Sca;Sbx;Sxa;B;L0.1;H0;L0.1;H0;L0.3").follows(0, 0), 4);
    }

    @Sentence(of = "Promise 16", says = "(empty if it stops);")
    static void noSongsBehindTheEnd() {
        CountedSongs x = told("Sab;Sba;B;B;L0.0");
        due("stops behind b", x.follows(0, 0), 0);
        due("goes on behind a", x.follows(0, 1), 2);
        due("no memory", x.follows(1, 1), 0);
        CountedSongs y = told("Sab;Sbx;B;L0.1");
        due("goes on to x, with which none begins", y.follows(0, 0), 0);
        due("stops behind x", y.follows(0, 1), 0);
    }

    @Sentence(of = "Promise 16", says = "NO_SUCH if there is no such parrot or song.")
    static void followsOfAParrotAndASong() {
        dueParrots((x, parrot) -> x.follows(parrot, 0));
        dueSongs((x, song) -> x.follows(0, song));
    }

    // ---- 17: count

    @Sentence(of = "Promise 17", says = "Returns a number. - `what`: 0 nights so far, 1 songs, 2 parrots,")
    static void nightsSongsAndParrots() {
        CountedSongs x = told("Sa;Sb;Sc;B;B;N");
        due("nights", x.count(0), 1);
        due("songs", x.count(1), 3);
        due("parrots", x.count(2), 2);
        CountedSongs full = told("Sa;Sb;Sc;Sd;Se;Sf;Sg;Sh;B;B;B;B");
        due("all songs", full.count(1), 8);
        due("all parrots", full.count(2), 4);
        due("all nights", TermsEdges.oldHouse().count(0), 999);
    }

    @Sentence(of = "Promise 17", says = "3 lessons so far,")
    static void lessonsSoFar() {
        CountedSongs x = told("Sab;Sz;B;B;L0.0;L1.0;N;L0.1;L0.0/1");
        due("with both songs, on both days", x.count(3), 4);
        due("refused", x.lesson(0, 0, 2), BAD_VALUE);
        x.practise(0, 1);
        due("practice is none", x.count(3), 4);
        due("none", told("Sab;B").count(3), 0);
    }

    @Sentence(of = "Promise 17", says = "4 bars heard so far by all,")
    static void barsHeardByAll() {
        CountedSongs x = told("Saba;B;B;L0.0;N;L1.0;P1*3");
        due("3, and 3, and twice 3", x.count(4), 12);
        due("of the one", x.of(0, 4), 6);
        due("none", told("Sab;B").count(4), 0);
    }

    @Sentence(of = "Promise 17", says = "5 links of all,")
    static void linksOfAll() {
        due("none", told("Sab;B;B").count(5), 0);
        due("of both", told("Sab;Sabc;B;B;L0.0;L1.1").count(5), 3);
        CountedSongs x = told("S" + TWENTY + ";Sacegikmoqsuwybdfhjln", "Sbehknqtwzcfiloruxadg;Szy;B;B;B;B");
        x.set(SPAN, 60);
        x.set(TIRE, 60);
        for (int parrot = 0; parrot < 4; parrot++) {
            tell(x, "L0.0;L0.1;L0.2".replace("L0", "L" + parrot));
        }
        x.night();
        tell(x, "L0.3;L1.3;L2.3;L3.3");
        due("sixty of each one", x.count(5), 240);
        due("none forgotten", x.count(6), 0);
    }

    @Sentence(of = "Promise 17", says = "6 links forgotten so far by all,")
    static void linksForgottenByAll() {
        CountedSongs x = told("Sabcdef;B;B;B;L1.0");
        x.set(SPAN, 4);
        due("none", x.count(6), 0);
        tell(x, "L0.0");
        due("one beyond SPAN", x.count(6), 1);
        tell(x, "N;N");
        due("and nine by night", x.count(6), 10);
    }

    @Sentence(of = "Promise 17", says = "7 parrots that are tired, as a set,")
    static void tiredParrots() {
        CountedSongs x = told("Sab;Sz;B;B;B;B;L0.0;L1.1;L3.0");
        due("none", x.count(7), 0);
        x.set(TIRE, 2);
        due("0 and 3", x.count(7), 9);
        x.set(TIRE, 1);
        due("0, 1 and 3", x.count(7), 11);
        tell(x, "L2.1");
        due("all", x.count(7), 15);
        x.set(TIRE, 3);
        due("none", x.count(7), 0);
    }

    @Sentence(of = "Promise 17", says = "8 to 11 the settings,")
    static void settingsAsTheyAre() {
        CountedSongs x = new CountedSongs();
        int[] values = {60, 0, 3, 1};
        for (int i = 0; i < 4; i++) {
            x.set(i, values[i]);
        }
        for (int i = 0; i < 4; i++) {
            due("setting " + i, x.count(8 + i), values[i]);
        }
    }

    @Sentence(of = "Promise 17", says = "12 the length of the pad,")
    static void lengthOfThePad() {
        CountedSongs x = new CountedSongs();
        due("empty", x.count(12), 0);
        Check.write(x, "B");
        due("one", x.count(12), 1);
        Check.write(x, ";B".repeat(39));
        due("79", x.count(12), 79);
        x.put(';');
        due("80", x.count(12), 80);
        x.put('B');
        due("80 yet", x.count(12), 80);
        x.wipe();
        due("wiped", x.count(12), 0);
    }

    @Sentence(of = "Promise 17", says = "13 how many changes can be undone")
    static void changesThatCanBeUndone() {
        CountedSongs x = new CountedSongs();
        for (int changes = 0; changes <= 8; changes++) {
            due("behind " + changes, x.count(13), Math.min(6, changes));
            x.night();
        }
        x.undo();
        due("behind an undo", x.count(13), 5);
    }

    @Sentence(of = "Promise 17", says = "Returns the number; BAD_VALUE if what is out of range.")
    static void countFrom0To13() {
        dueRange(CountedSongs::new, 0, 13, (x, what) -> x.count(what));
    }

    // ---- 18: lessonsFor

    @Sentence(of = "Promise 18", says = "Tells behind how many lessons with a whole song, 0 or more,")
    static void noLessonForWhatIsKnown() {
        CountedSongs x = told("Sabc;Sz;B;B;L0.0");
        due("known", x.lessonsFor(0, 0), 0);
        due("one bar", x.lessonsFor(1, 1), 0);
        due("nothing heard", x.lessonsFor(1, 0), 1);
        due("twenty bars", told("S" + TWENTY + ";B").lessonsFor(0, 0), 1);
        CountedSongs y = told("Sabcd;B;L0.0/2;H0");
        due("the whole song, whatever is known of it", y.lessonsFor(0, 0), 1);
    }

    @Sentence(of = "Promise 18", says = "the parrot being hushed ahead of each one,")
    static void hushedAheadOfEachLesson() {
        due("ahead of the first one", told("Sab;Saaaa;B;L0.1").lessonsFor(0, 0), 3);
        due("ahead of the second one", told("Saba;Saaa;B;L0.1;H0").lessonsFor(0, 0), 2);
    }

    @Sentence(of = "Promise 18", says = "it would know that song by 100 hundredths.")
    static void asManyLessonsAsTheLinkNeeds() {
        for (int strength = 1; strength <= 9; strength++) {
            for (int gain = 1; gain <= 3; gain++) {
                CountedSongs x = told("Sab;S" + "a".repeat(strength + 1) + ";B;L0.1");
                x.set(GAIN, gain);
                due(strength + " by " + gain, x.lessonsFor(0, 0), (strength + gain - 1) / gain);
            }
        }
        due("not by 94 hundredths", told("S" + TWENTY + ";Ssssss;B;L0.1").lessonsFor(0, 0), 4);
    }

    @Sentence(of = "Promise 18", says = "Returns how many; NO_SUCH if there is no such parrot or song;")
    static void lessonsForAParrotOfASong() {
        dueParrots((x, parrot) -> x.lessonsFor(parrot, 0));
        dueSongs((x, song) -> x.lessonsFor(0, song));
    }

    /** Strengths end at 9, so that a song that isn't known behind some nine lessons never is: 30 itself can't be met. */
    @Sentence(of = "Promise 18", says = "NONE if it is not within 30.")
    static void songsThatAreNeverKnown() {
        due("b and c behind a", told("Sabac;B").lessonsFor(0, 0), NONE);
        CountedSongs x = told("Sabcde;Sabcdef;B");
        x.set(SPAN, 4);
        due("as many links as SPAN", x.lessonsFor(0, 0), 1);
        due("one more", x.lessonsFor(0, 1), NONE);
        CountedSongs y = told("Sabcde;Szy;B;L0.0;H0;L0.0");
        y.set(SPAN, 4);
        due("its link is forgotten as soon as it comes", y.lessonsFor(0, 1), NONE);
        y.set(SPAN, 5);
        due("is kept", y.lessonsFor(0, 1), 1);
    }

    // ---- 19: bestLesson

    @Sentence(of = "Promise 19", says = "Finds the song whose whole lesson now (without a hush) would make")
    static void theLessonGoesOnWhereTheParrotIs() {
        CountedSongs x = told("Sab;Sba;B;L0.1/1");
        due("ab comes ahead of ba", x.bestLesson(0, 0), 1);
        due("both", x.bestLesson(0, 1), 200);
        tell(x, "H0");
        due("hushed: one of them", x.bestLesson(0, 0), 0);
        due("hushed: one of them", x.bestLesson(0, 1), 100);
    }

    @Sentence(of = "Promise 19", says = "the hundredths by which the parrot knows all songs, together, the most,")
    static void theMostOfAllSongsTogether() {
        CountedSongs x = told("Sab;Scd;Scdef;Scde;Scx;B");
        due("the third one", x.bestLesson(0, 0), 2);
        due("cd, cdef and cde", x.bestLesson(0, 1), 300);
        CountedSongs y = told("Sabcd;Sabce;Sabcf;B");
        due("each one rounded down", y.bestLesson(0, 1), 232);
        CountedSongs z = told("Sx;Sa;Sb;Sc;Sd;Se;Sf;Sgh;B;B;B;B");
        due("the last one of eight", z.bestLesson(3, 0), 7);
        due("all", z.bestLesson(3, 1), 800);
        due("the first one", told("Sgh;Sa;Sb;Sc;Sd;Se;Sf;Sx;B").bestLesson(0, 0), 0);
    }

    @Sentence(of = "Promise 19", says = "if that is more than they are now,")
    static void moreThanNow() {
        CountedSongs x = told("Sab;Sac;B;L0.0");
        due("ac instead of ab is not more", x.bestLesson(0, 0), NONE);
        due("ac instead of ab is not more", x.bestLesson(0, 1), NONE);
        due("less", told("Sab;Sabx;Sac;B;L0.1").bestLesson(0, 0), NONE);
        CountedSongs y = told("S" + TWENTY + ";B");
        y.set(TIRE, 19);
        y.lesson(0, 0, 0);
        due("more by five hundredths", y.bestLesson(0, 0), 0);
        due("more by five hundredths", y.bestLesson(0, 1), 100);
    }

    @Sentence(of = "Promise 19", says = "of several the lowest one.")
    static void ofSeveralTheLowest() {
        due("of three", told("Sab;Scd;Sef;B").bestLesson(0, 0), 0);
        due("of the second and the third", told("Sz;Scd;Sef;B").bestLesson(0, 0), 1);
        due("the same song twice", told("Sz;Szz;Sabc;Sabc;B").bestLesson(0, 0), 2);
    }

    @Sentence(of = "Promise 19", says = "- `what`: 0 the song, 1 the hundredths together then")
    static void theSongOrTheHundredths() {
        CountedSongs x = told("Sz;Sabc;B");
        due("song", x.bestLesson(0, 0), 1);
        due("hundredths", x.bestLesson(0, 1), 200);
    }

    @Sentence(of = "Promise 19", says = "Returns the number; NO_SUCH if there is no such parrot;")
    static void bestLessonOfAParrot() {
        dueParrots((x, parrot) -> x.bestLesson(parrot, 0));
        dueParrots((x, parrot) -> x.bestLesson(parrot, 1));
    }

    @Sentence(of = "Promise 19", says = "BAD_VALUE if what is neither;")
    static void bestLesson0Or1() {
        dueRange(() -> told("Sab;B"), 0, 1, (x, what) -> x.bestLesson(0, what));
    }

    @Sentence(of = "Promise 19", says = "NONE if none helps.")
    static void noLessonHelps() {
        for (int what = 0; what <= 1; what++) {
            due("no songs", told("B").bestLesson(0, what), NONE);
            due("one bar", told("Sz;B").bestLesson(0, what), NONE);
            due("all known", told("Sab;Sbc;B;L0.0;L0.1;L0.1").bestLesson(0, what), NONE);
        }
    }

    @Sentence(of = "Promise 19",
            says = "NO_SUCH if there is no such parrot; BAD_VALUE if what is neither; NONE if none helps.")
    static void errorsOfBestLessonInTheirOrder() {
        CountedSongs x = told("B");
        due("no parrot, what", x.bestLesson(1, 2), NO_SUCH);
        due("no parrot, what below", x.bestLesson(-1, -1), NO_SUCH);
        due("what, none helps", x.bestLesson(0, 2), BAD_VALUE);
        due("what below, none helps", x.bestLesson(0, -1), BAD_VALUE);
        due("none helps", x.bestLesson(0, 1), NONE);
    }

    // ---- 20: keeps

    @Sentence(of = "Promise 20",
            says = "Tells how many nights a parrot knows a song by 100 hundredths yet, if it hears nothing more: "
            + "the number of nights behind which it does not any more.")
    static void nightsUntilALinkIsForgotten() {
        for (int strength = 1; strength <= 9; strength++) {
            for (int fade = 1; fade <= 3; fade++) {
                CountedSongs x = told("Saa;S" + "a".repeat(strength + 1) + ";B;L0.1");
                x.set(FADE, fade);
                int nights = (strength + fade - 1) / fade;
                due(strength + " by " + fade + ", heard today", x.keeps(0, 0), nights + 1);
                x.night();
                due(strength + " by " + fade, x.keeps(0, 0), nights);
                for (int night = 1; night <= nights; night++) {
                    due("known yet", x.knows(0, 0), 100);
                    x.night();
                }
                due("not known any more", x.knows(0, 0), 0);
            }
        }
    }

    @Sentence(of = "Promise 20", says = "the number of nights behind which it does not any more.")
    static void theWeakestLinkDecides() {
        due("cd", told("Sabcd;Sabc;B;L0.0;H0;L0.1;H0;L0.1;N").keeps(0, 0), 1);
        due("ab and bc", told("Sabcd;Sabc;B;L0.0;H0;L0.1;H0;L0.1;N").keeps(0, 1), 3);
        due("ac was heard today, and is as strong behind a night",
                told("Sab;Sac;B;L0.0;H0;L0.0;N;L0.1").keeps(0, 0), 1);
    }

    @Sentence(of = "Promise 20",
            says = "Tells how many nights a parrot knows a song by 100 hundredths yet, if it hears nothing more:")
    static void nightsThatOneCanOnlyAskOf() {
        CountedSongs x = TermsEdges.oldHouse();
        tell(x, "Sab;B;L0.0");
        due("no more nights", x.night(), NOT_POSSIBLE);
        due("two, if they came", x.keeps(0, 0), 2);
    }

    @Sentence(of = "Promise 20", says = "Returns how many (0 if it does not now);")
    static void notKnownNow() {
        due("nothing heard", told("Sab;B").keeps(0, 0), 0);
        due("not all", told("Sabc;B;L0.0/1").keeps(0, 0), 0);
        due("forgotten", told("Sab;B;L0.0;N;N").keeps(0, 0), 0);
        CountedSongs x = told("Sab;B");
        x.set(FADE, 0);
        due("nothing fades", x.keeps(0, 0), 0);
    }

    @Sentence(of = "Promise 20", says = "NO_SUCH if there is no such parrot or song;")
    static void keepsOfAParrotAndASong() {
        dueParrots((x, parrot) -> x.keeps(parrot, 0));
        dueSongs((x, song) -> x.keeps(0, song));
    }

    /** The strongest link is forgotten in the tenth night, if links fade at all: 30 itself can't be met. */
    @Sentence(of = "Promise 20", says = "NONE if it does behind 30 nights still.")
    static void whatIsNeverForgotten() {
        CountedSongs x = told("Sab;Sz;B;L0.0");
        x.set(FADE, 0);
        due("nothing fades", x.keeps(0, 0), NONE);
        x.set(FADE, 3);
        due("it does", x.keeps(0, 0), 2);
        due("one bar", x.keeps(0, 1), NONE);
    }
}
