/** For each promise: ordinary inputs, the edges that the document names, and wrong inputs. */
public final class PromiseTest {
    private static final int NO_SUCH = -1, BAD_VALUE = -2, BAD_TEXT = -3, TOO_MANY = -4, NOT_POSSIBLE = -5, NONE = -6;
    private static final int[] NO_INDEX = {-1, 8, 1000, Integer.MIN_VALUE, Integer.MAX_VALUE};

    private static String promise = "";

    private PromiseTest() {
    }

    private static void due(String call, long got, long want) {
        Check.due(promise + ": " + call, got, want);
    }

    /** A new house in which a text was carried out. */
    private static CountedSongs told(String text, int orders) {
        CountedSongs x = new CountedSongs();
        due(text, Check.tell(x, text), orders);
        return x;
    }

    private static void dueLink(CountedSongs x, int rank, String bars, int strength, int heard) {
        due("link " + rank + " from", x.link(0, rank, 0), bars.charAt(0) - 'a');
        due("link " + rank + " to", x.link(0, rank, 1), bars.charAt(1) - 'a');
        due("link " + rank + " strength", x.link(0, rank, 2), strength);
        due("link " + rank + " heard", x.link(0, rank, 3), heard);
    }

    public static void main(String[] args) {
        newObject();
        set();
        parrot();
        lesson();
        lessonsAndLinks();
        span();
        hush();
        practise();
        practiceOfOthers();
        night();
        nightsAreLimited();
        ofSong();
        bar();
        of();
        link();
        sings();
        knows();
        mistake();
        rhymes();
        follows();
        count();
        lessonsFor();
        bestLesson();
        keeps();
        put();
        wipe();
        fault();
        carryOut();
        ordersOfTexts();
        undo();
        save();
        restore();
        Check.end();
    }

    private static void newObject() {
        promise = "1";
        CountedSongs x = new CountedSongs();
        int[] first = {0, 0, 0, 0, 0, 0, 0, 0, 24, 1, 1, 20, 0, 0};
        for (int what = 0; what < first.length; what++) {
            due("count " + what, x.count(what), first[what]);
        }
        due("undo", x.undo(), NOT_POSSIBLE);
        due("restore 0", x.restore(0), NOT_POSSIBLE);
        due("restore 1", x.restore(1), NOT_POSSIBLE);
        due("fault", x.fault(), 0);
        due("of", x.of(0, 0), NO_SUCH);
        due("ofSong", x.ofSong(0, 0), NO_SUCH);
    }

    private static void set() {
        promise = "2";
        int[][] ranges = {{4, 60, 24}, {0, 3, 1}, {1, 3, 1}, {1, 60, 20}};
        CountedSongs x = new CountedSongs();
        for (int i = 0; i < 4; i++) {
            due("least " + i, x.set(i, ranges[i][0]), ranges[i][2]);
            due("most " + i, x.set(i, ranges[i][1]), ranges[i][0]);
            due("too little " + i, x.set(i, ranges[i][0] - 1), BAD_VALUE);
            due("too much " + i, x.set(i, ranges[i][1] + 1), BAD_VALUE);
            due("far too little " + i, x.set(i, Integer.MIN_VALUE), BAD_VALUE);
            due("far too much " + i, x.set(i, Integer.MAX_VALUE), BAD_VALUE);
            due("count " + i, x.count(8 + i), ranges[i][1]);
        }
        due("setting -1", x.set(-1, 10), BAD_VALUE);
        due("setting 4", x.set(4, 10), BAD_VALUE);
        due("setting far off", x.set(Integer.MAX_VALUE, 10), BAD_VALUE);
        CountedSongs y = told("Sabcdefg;B;L0.0", 3);
        due("set span", y.set(ParrotSongs.SPAN, 4), 24);
        due("links stay", y.of(0, 0), 6);
        due("none is forgotten", y.of(0, 5), 0);
        due("changes", y.count(13), 2);
        due("no change", y.set(ParrotSongs.SPAN, 4), 4);
        due("is recorded too", y.count(13), 3);
        due("wrong", y.set(ParrotSongs.SPAN, 3), BAD_VALUE);
        due("is not recorded", y.count(13), 3);
    }

    private static void parrot() {
        promise = "3";
        CountedSongs x = new CountedSongs();
        for (int i = 0; i < 4; i++) {
            due("parrot", x.parrot(), i);
            due("count", x.count(2), i + 1);
            due("links", x.of(i, 0), 0);
            due("last bar", x.of(i, 2), NONE);
            due("today", x.of(i, 3), 0);
        }
        due("fifth", x.parrot(), TOO_MANY);
        due("count", x.count(2), 4);
        due("changes", x.count(13), 4);
        CountedSongs y = told("Sab;B;L0.0", 3);
        due("second", y.parrot(), 1);
        due("its memory", y.of(1, 0), 0);
        due("undo", y.undo(), 1);
        due("undo", y.undo(), 0);
        due("anew", y.parrot(), 0);
        due("its memory", y.of(0, 0), 0);
        due("its last bar", y.of(0, 2), NONE);
        due("bars", y.of(0, 4), 0);
    }

    private static void lesson() {
        promise = "4";
        CountedSongs x = told("Sabcde;Sx;B;B", 4);
        due("from", x.lesson(0, 0, 2), 3);
        due("last bar", x.of(0, 2), 4);
        due("today", x.of(0, 3), 3);
        due("other parrot", x.of(1, 3), 0);
        due("last one", x.lesson(0, 0, 4), 1);
        due("one bar", x.lesson(0, 1, 0), 1);
        due("behind the end", x.lesson(0, 0, 5), BAD_VALUE);
        due("below", x.lesson(0, 0, -1), BAD_VALUE);
        due("far", x.lesson(0, 1, Integer.MAX_VALUE), BAD_VALUE);
        for (int no : NO_INDEX) {
            due("no parrot", x.lesson(no, 0, 0), NO_SUCH);
            due("no song", x.lesson(0, no, 0), NO_SUCH);
        }
        due("parrot 2", x.lesson(2, 0, 0), NO_SUCH);
        due("song 2", x.lesson(0, 2, 99), NO_SUCH);
        due("lessons", x.count(3), 3);
        due("lessons with 0", x.ofSong(0, 4), 2);
        x.set(ParrotSongs.TIRE, 7);
        due("until tired", x.lesson(0, 0, 0), 2);
        due("last bar", x.of(0, 2), 1);
        due("tired", x.lesson(0, 0, 0), NOT_POSSIBLE);
        due("bad value comes first", x.lesson(0, 0, 5), BAD_VALUE);
        due("not a lesson", x.count(3), 4);
        due("changes", x.count(13), 6);
        due("one more bar a day", x.set(ParrotSongs.TIRE, 8), 7);
        due("goes on", x.lesson(0, 0, 2), 1);
        due("fewer bars a day", x.set(ParrotSongs.TIRE, 3), 8);
        due("tired", x.lesson(0, 0, 0), NOT_POSSIBLE);
        due("the other one is not", x.lesson(1, 0, 0), 3);
        due("now it is", x.lesson(1, 0, 0), NOT_POSSIBLE);
    }

    private static void lessonsAndLinks() {
        promise = "4";
        CountedSongs x = told("Sabc;Scab;B;L0.0;L0.1", 5);
        due("the last bar leads on", x.of(0, 0), 4);
        dueLink(x, 0, "ab", 2, 1);
        dueLink(x, 1, "ca", 1, 1);
        dueLink(x, 2, "cc", 1, 1);
        dueLink(x, 3, "bc", 1, 1);
        x.set(ParrotSongs.GAIN, 3);
        due("lesson", x.lesson(0, 0, 0), 3);
        dueLink(x, 0, "bc", 4, 1);
        dueLink(x, 1, "ab", 5, 1);
        dueLink(x, 2, "ba", 3, 1);
        x.set(ParrotSongs.TIRE, 60);
        x.lesson(0, 0, 0);
        x.lesson(0, 0, 0);
        dueLink(x, 0, "bc", 9, 1);
        dueLink(x, 1, "ab", 9, 1);
        dueLink(x, 2, "ca", 7, 1);
    }

    private static void span() {
        promise = "4";
        CountedSongs x = told("Sabcde;Szy;B;L0.0;L0.0/1", 5);
        // ab 1, ea 0, bc 2, cd 2, de 2, eb 1, the freshest ones being eb bc cd de
        x.set(ParrotSongs.SPAN, 5);
        due("five", x.of(0, 0), 5);
        x.hush(0);
        due("two more bars", x.lesson(0, 1, 0), 2);
        due("five", x.of(0, 0), 5);
        due("one forgotten", x.of(0, 5), 1);
        dueLink(x, 0, "zy", 1, 1);
        dueLink(x, 1, "de", 2, 1);
        dueLink(x, 4, "eb", 1, 1);

        CountedSongs y = told("Sabcde;Szy;B;L0.0;H0;L0.0;N", 7);
        y.set(ParrotSongs.SPAN, 4);
        y.lesson(0, 1, 0);
        due("the new one is the weakest", y.of(0, 0), 4);
        due("one forgotten", y.of(0, 5), 1);
        dueLink(y, 0, "de", 2, 0);
        due("but it is the last bar", y.of(0, 2), 24);

        CountedSongs z = told("Sabcdefgh;B;L0.0;H0", 4);
        z.set(ParrotSongs.SPAN, 4);
        due("no link comes or grows", z.lesson(0, 0, 7), 1);
        due("seven", z.of(0, 0), 7);
        z.hush(0);
        due("two grow", z.lesson(0, 0, 5), 3);
        due("each one lets one be forgotten", z.of(0, 0), 5);
        dueLink(z, 0, "gh", 2, 1);
        dueLink(z, 1, "fg", 2, 1);
        dueLink(z, 2, "ef", 1, 1);
        dueLink(z, 4, "cd", 1, 1);
        due("forgotten", z.count(6), 2);

        CountedSongs full = new CountedSongs();
        full.set(ParrotSongs.SPAN, 60);
        full.set(ParrotSongs.TIRE, 60);
        Check.tell(full, "B;Sabcdefghijklmnopqrst;Sacegikmoqsuwybdfhjln");
        Check.tell(full, "Sbehknqtwzcfiloruxadg;L0.0;L0.1;L0.2");
        due("sixty bars", full.of(0, 0), 59);
        full.night();
        full.set(ParrotSongs.FADE, 0);
        full.night();
        due("all heard today", full.of(0, 0), 59);
        full.lesson(0, 2, 19);
        full.lesson(0, 0, 0);
        due("sixty", full.of(0, 0), 60);
        due("one more", full.lesson(0, 1, 1), 19);
        due("sixty", full.of(0, 0), 60);
        due("one forgotten", full.of(0, 5), 1);
        full.set(ParrotSongs.SPAN, 4);
        full.night();
        full.lesson(0, 0, 0);
        full.lesson(0, 2, 0);
        due("one for each bar that links", full.of(0, 5), 40);

        CountedSongs w = told("Sabcdef;Sab;Sde;B;L0.0;H0;L0.1;H0;L0.2;H0", 10);
        w.set(ParrotSongs.SPAN, 4);
        // bc, cd and ef are as strong, and came in this order
        w.lesson(0, 1, 0);
        due("ab grows, bc is forgotten", w.of(0, 0), 4);
        // bd comes, cd is forgotten
        w.lesson(0, 2, 0);
        dueLink(w, 0, "de", 3, 1);
        dueLink(w, 2, "ab", 3, 1);
        dueLink(w, 3, "ef", 1, 1);
        due("two forgotten", w.of(0, 5), 2);

        CountedSongs v = told("Sabcdefg;Sab;B;L0.0;H0;L0.1;H0;L0.0/6", 8);
        v.set(ParrotSongs.SPAN, 6);
        // the least fresh ones: bc 1, cd 1, de 1, ef 1, fg 1, ab 2; each one is forgotten just before it is heard
        v.lesson(0, 0, 0);
        due("six", v.of(0, 0), 6);
        dueLink(v, 0, "fg", 1, 1);
        dueLink(v, 4, "bc", 1, 1);
        dueLink(v, 5, "ab", 3, 1);
        due("and ga, too", v.of(0, 5), 6);

        CountedSongs u = told("Sabcdefg;Sab;B;L0.1;H0;L0.1;H0;L0.0;H0", 9);
        u.set(ParrotSongs.SPAN, 4);
        // the least fresh one is the strongest one
        u.lesson(0, 0, 5);
        due("five", u.of(0, 0), 5);
        dueLink(u, 4, "ab", 3, 1);
        dueLink(u, 3, "cd", 1, 1);
    }

    private static void hush() {
        promise = "5";
        CountedSongs x = told("Sabc;B;B;L0.0", 4);
        due("hush", x.hush(0), 2);
        due("last bar", x.of(0, 2), NONE);
        due("hush again", x.hush(0), NONE);
        due("never heard", x.hush(1), NONE);
        due("changes", x.count(13), 4);
        due("no link", x.lesson(0, 0, 0), 3);
        due("links", x.of(0, 0), 2);
        for (int no : NO_INDEX) {
            due("no parrot", x.hush(no), NO_SUCH);
        }
        due("parrot 2", x.hush(2), NO_SUCH);
        due("changes", x.count(13), 5);
    }

    private static void practise() {
        promise = "6";
        CountedSongs x = told("Sabcd;Sa;B;L0.0;L0.1;H0;L0.1", 7);
        due("three bars, then it goes on", x.practise(0, 5), 5);
        due("last bar", x.of(0, 2), 1);
        due("today", x.of(0, 3), 11);
        due("in all", x.of(0, 4), 11);
        dueLink(x, 0, "ab", 3, 1);
        dueLink(x, 1, "da", 2, 1);
        due("one", x.practise(0, 1), 1);
        due("last bar", x.of(0, 2), 2);
        due("no bars", x.practise(0, 0), BAD_VALUE);
        due("41", x.practise(0, 41), BAD_VALUE);
        due("below", x.practise(0, Integer.MIN_VALUE), BAD_VALUE);
        due("40", x.practise(0, 40), 40);
        due("tired by then", x.of(0, 3), 20);
        due("tired", x.practise(0, 1), NOT_POSSIBLE);
        for (int no : NO_INDEX) {
            due("no parrot", x.practise(no, 1), NO_SUCH);
            due("no parrot comes first", x.practise(no, 0), NO_SUCH);
        }
        x.night();
        due("no last bar", x.practise(0, 1), NOT_POSSIBLE);
        due("bad value comes first", x.practise(0, 41), BAD_VALUE);

        CountedSongs y = told("Sabc;B;L0.0", 3);
        due("stops at once", y.practise(0, 3), 0);
        due("is recorded", y.count(13), 2);
        due("hush", y.hush(0), 2);
        y.lesson(0, 0, 1);
        due("stops soon", y.practise(0, 3), 0);
        y.lesson(0, 0, 0);
        due("cb and ca are as strong", y.practise(0, 1), 1);
        due("the freshest one", y.of(0, 2), 0);

        // the bars are found first, though it forgets each link on which it goes on just before
        CountedSongs z = told("Sabcdefghijklmnopqrst;Sa;B;L0.0;N;L0.1", 6);
        z.set(ParrotSongs.SPAN, 4);
        due("found first", z.practise(0, 40), 19);
        due("one forgotten for each bar", z.of(0, 5), 19);
        due("links", z.of(0, 0), 18);
    }

    private static void practiceOfOthers() {
        promise = "6";
        CountedSongs x = told("Sabcd;Sz;B;B;B;L1.0;L0.1;L1.0/0", 8);
        due("changes", x.set(ParrotSongs.TIRE, 7), 20);
        // parrot 1 heard a b c d a, was tired by nothing yet, and goes on b c d a b c
        due("five bars so far", x.of(1, 3), 8);
        due("tired", x.practise(1, 2), NOT_POSSIBLE);
        x.set(ParrotSongs.TIRE, 10);
        due("three", x.practise(1, 3), 3);
        due("it hears two", x.of(1, 3), 10);
        due("its last bar", x.of(1, 2), 1);
        due("another one hears three", x.of(0, 3), 4);
        due("behind its own last bar", x.link(0, 2, 0), 25);
        due("the first one sung", x.link(0, 2, 1), 0);
        due("its last bar", x.of(0, 2), 2);
        due("a third one, too", x.of(2, 3), 3);
        due("links", x.of(2, 0), 2);
        due("lessons", x.count(3), 3);
        x.set(ParrotSongs.TIRE, 5);
        due("practise", x.practise(0, 9), 0);
        due("practise", x.practise(2, 2), 0);
    }

    private static void night() {
        promise = "7";
        CountedSongs x = told("Sabc;Sbc;B;B;L0.0;L0.1;L1.1", 7);
        due("all were heard", x.night(), 0);
        due("nights", x.count(0), 1);
        due("last bar", x.of(0, 2), NONE);
        due("today", x.of(0, 3), 0);
        due("in all", x.of(0, 4), 5);
        dueLink(x, 0, "bc", 2, 0);
        dueLink(x, 1, "cb", 1, 0);
        dueLink(x, 2, "ab", 1, 0);
        due("two of the one, one of the other", x.night(), 3);
        due("left", x.count(5), 1);
        due("forgot", x.of(0, 5), 2);
        due("forgot", x.of(1, 5), 1);
        dueLink(x, 0, "bc", 1, 0);
        due("lesson", x.lesson(0, 1, 0), 2);
        due("heard today", x.night(), 0);
        x.set(ParrotSongs.FADE, 0);
        due("no fading", x.night(), 0);
        dueLink(x, 0, "bc", 2, 0);
        x.set(ParrotSongs.FADE, 3);
        due("fades below 0", x.night(), 1);
        due("links", x.of(0, 0), 0);
        due("night", x.night(), 0);
        CountedSongs y = told("Sab;B;L0.0;H0;L0.0;H0;L0.0;N", 8);
        y.set(ParrotSongs.FADE, 2);
        due("three less two", y.night(), 0);
        dueLink(y, 0, "ab", 1, 0);
        due("one less two", y.night(), 1);
        y.lesson(0, 0, 0);
        dueLink(y, 0, "ab", 1, 1);
        due("comes anew", y.of(0, 0), 1);
    }

    private static void nightsAreLimited() {
        promise = "7";
        CountedSongs x = new CountedSongs();
        String forty = "N" + ";N".repeat(39);
        for (int i = 0; i < 24; i++) {
            due("forty nights", Check.tell(x, forty), 40);
        }
        due("thirty-eight", Check.tell(x, forty.substring(0, 75)), 38);
        due("nights", x.count(0), 998);
        due("two", Check.tell(x, "N;N"), 1);
        due("nights", x.count(0), 999);
        due("no more", x.night(), NOT_POSSIBLE);
        due("nights", x.count(0), 999);
    }

    private static void ofSong() {
        promise = "8";
        CountedSongs x = told("Szababq;Sc;Sabcdefghijklmnopqrst;B;B;L1.0;H1;L1.1;L0.0/2", 9);
        int[][] wants = {{6, 4, 25, 16, 2, 0}, {1, 1, 2, 2, 1, 3}, {20, 20, 0, 19, 0, 0}};
        for (int song = 0; song < wants.length; song++) {
            for (int what = 0; what < wants[song].length; what++) {
                due("ofSong " + song + " " + what, x.ofSong(song, what), wants[song][what]);
            }
            due("what 6", x.ofSong(song, 6), BAD_VALUE);
            due("what -1", x.ofSong(song, -1), BAD_VALUE);
        }
        due("no such first", x.ofSong(3, 6), NO_SUCH);
        for (int no : NO_INDEX) {
            due("no song", x.ofSong(no, 0), NO_SUCH);
            due("no what", x.ofSong(0, no), BAD_VALUE);
        }
        CountedSongs y = told("Sab;B;B;B;B;L1.0;L3.0;S" + "a".repeat(20), 8);
        due("known", y.ofSong(0, 5), 2 + 8);
        due("one kind of bar", y.ofSong(1, 1), 1);
    }

    private static void bar() {
        promise = "9";
        CountedSongs x = told("Saz;Sabcdefghijklmnopqrst", 2);
        due("first", x.bar(0, 0), 0);
        due("last", x.bar(0, 1), 25);
        due("behind", x.bar(0, 2), NO_SUCH);
        due("below", x.bar(0, -1), NO_SUCH);
        for (int i = 0; i < 20; i++) {
            due("bar " + i, x.bar(1, i), i);
        }
        due("behind", x.bar(1, 20), NO_SUCH);
        due("no song", x.bar(2, 0), NO_SUCH);
        for (int no : NO_INDEX) {
            due("no song", x.bar(no, 0), NO_SUCH);
            due("no bar", x.bar(0, no), NO_SUCH);
        }
    }

    private static void of() {
        promise = "10";
        CountedSongs x = told("Sabc;Sxz;Sd;B;B;L0.0;L0.0;N;L0.1", 9);
        int[][] wants = {{4, 6, 25, 2, 8, 0, 7}, {0, 0, NONE, 0, 0, 0, 4}};
        for (int parrot = 0; parrot < wants.length; parrot++) {
            for (int what = 0; what < wants[parrot].length; what++) {
                due("of " + parrot + " " + what, x.of(parrot, what), wants[parrot][what]);
            }
        }
        x.night();
        due("ca is forgotten", x.of(0, 0), 3);
        due("strengths", x.of(0, 1), 3);
        due("forgot", x.of(0, 5), 1);
        due("in all", x.of(0, 4), 8);
        due("what 7", x.of(0, 7), BAD_VALUE);
        due("what -1", x.of(0, -1), BAD_VALUE);
        due("no such first", x.of(2, 7), NO_SUCH);
        for (int no : NO_INDEX) {
            due("no parrot", x.of(no, 0), NO_SUCH);
            due("no what", x.of(0, no), BAD_VALUE);
        }
    }

    private static void link() {
        promise = "11";
        CountedSongs x = told("Sabca;B;B;L0.0", 4);
        dueLink(x, 0, "ca", 1, 1);
        dueLink(x, 1, "bc", 1, 1);
        dueLink(x, 2, "ab", 1, 1);
        due("rank 3", x.link(0, 3, 0), NO_SUCH);
        due("rank -1", x.link(0, -1, 0), NO_SUCH);
        due("what 4", x.link(0, 0, 4), BAD_VALUE);
        due("what -1", x.link(0, 0, -1), BAD_VALUE);
        due("no such first", x.link(0, 3, 4), NO_SUCH);
        due("no links", x.link(1, 0, 0), NO_SUCH);
        for (int no : NO_INDEX) {
            due("no parrot", x.link(no, 0, 0), NO_SUCH);
            due("no rank", x.link(0, no, 0), NO_SUCH);
            due("no what", x.link(0, 0, no), BAD_VALUE);
        }
        x.hush(0);
        x.lesson(0, 0, 1);
        dueLink(x, 0, "ca", 2, 1);
        x.lesson(0, 0, 1);
        dueLink(x, 2, "ab", 2, 1);
        x.night();
        dueLink(x, 2, "ab", 2, 0);
    }

    private static void sings() {
        promise = "12";
        CountedSongs x = told("Sabc;Sad;B;B;L0.0;H0;L0.1;H0", 8);
        due("itself", x.sings(0, 0, 0), 0);
        due("the freshest one", x.sings(0, 0, 1), 3);
        due("stops", x.sings(0, 0, 2), NONE);
        x.lesson(0, 0, 0);
        due("the strongest one", x.sings(0, 0, 1), 1);
        x.hush(0);
        x.lesson(0, 1, 0);
        due("the freshest again", x.sings(0, 0, 1), 3);
        due("from b", x.sings(0, 1, 1), 2);
        due("unknown bar itself", x.sings(1, 25, 0), 25);
        due("unknown bar", x.sings(1, 25, 1), NONE);
        due("bar 26", x.sings(0, 26, 0), BAD_VALUE);
        due("bar -1", x.sings(0, -1, 0), BAD_VALUE);
        due("steps 100", x.sings(0, 0, 100), BAD_VALUE);
        due("steps -1", x.sings(0, 0, -1), BAD_VALUE);
        due("far off", x.sings(0, Integer.MAX_VALUE, 0), BAD_VALUE);
        due("no such first", x.sings(2, 26, 100), NO_SUCH);
        for (int no : NO_INDEX) {
            due("no parrot", x.sings(no, 0, 0), NO_SUCH);
        }
        CountedSongs y = told("Sabca;B;L0.0", 3);
        due("98 steps", y.sings(0, 0, 98), 2);
        due("99 steps", y.sings(0, 0, 99), 0);
        // a weaker link stays behind a stronger one, however fresh it is
        CountedSongs z = told("Sab;Sac;B;L0.0;H0;L0.0;H0;L0.1", 8);
        due("strength is first", z.sings(0, 0, 1), 1);
    }

    private static void knows() {
        promise = "13";
        CountedSongs x = told("Sabcd;Se;Sabab;Sabce;B;B;L0.0", 7);
        due("whole", x.knows(0, 0), 100);
        due("one bar", x.knows(0, 1), 100);
        due("one of three", x.knows(0, 2), 33);
        due("two of three", x.knows(0, 3), 66);
        due("nothing", x.knows(1, 0), 0);
        due("one bar", x.knows(1, 1), 100);
        CountedSongs y = told("Sabcbd;Sbcd;B;L0.0;H0;L0.1", 6);
        // a b c, then d, which is wrong; what follows does not count
        due("two of four", y.knows(0, 0), 50);
        due("whole", y.knows(0, 1), 100);
        for (int no : NO_INDEX) {
            due("no parrot", x.knows(no, 0), NO_SUCH);
            due("no song", x.knows(0, no), NO_SUCH);
        }
        due("parrot 2", x.knows(2, 0), NO_SUCH);
        due("song 4", x.knows(0, 4), NO_SUCH);
    }

    private static void mistake() {
        promise = "14";
        CountedSongs x = told("Sabcd;Sbx;Sqbxb;Sbax;B;B;L0.0;H0;L0.1;H0", 10);
        due("index", x.mistake(0, 0, 0), 2);
        due("bar", x.mistake(0, 0, 1), 23);
        due("songs with bx", x.mistake(0, 0, 2), 2 + 4);
        due("stops at", x.mistake(1, 0, 0), 1);
        due("stops", x.mistake(1, 0, 1), NONE);
        due("no songs", x.mistake(1, 0, 2), 0);
        due("known", x.mistake(0, 1, 0), NOT_POSSIBLE);
        due("known", x.mistake(0, 1, 2), NOT_POSSIBLE);
        due("bad value comes first", x.mistake(0, 1, 3), BAD_VALUE);
        due("what -1", x.mistake(0, 0, -1), BAD_VALUE);
        due("no such first", x.mistake(2, 0, 3), NO_SUCH);
        for (int no : NO_INDEX) {
            due("no parrot", x.mistake(no, 0, 0), NO_SUCH);
            due("no song", x.mistake(0, no, 0), NO_SUCH);
            due("no what", x.mistake(0, 0, no), BAD_VALUE);
        }
        // the song itself is one in which the wrong bar comes behind the same one, elsewhere
        CountedSongs y = told("Sabac;Sacb;B;L0.0", 4);
        due("index", y.mistake(0, 0, 0), 1);
        due("bar", y.mistake(0, 0, 1), 2);
        due("itself, and 1", y.mistake(0, 0, 2), 3);
        CountedSongs z = told("Sabc;Sa;Sda;B", 4);
        due("stops", z.mistake(0, 0, 1), NONE);
        due("a is the last bar of others", z.mistake(0, 0, 2), 0);
    }

    private static void rhymes() {
        promise = "15";
        CountedSongs x = told("Sabcd;Sxcd;Scd;Sd;Sdc;Sabcd;Sbbcd", 7);
        int[] wants = {4, 2, 2, 1, 0, 4, 3};
        for (int i = 0; i < wants.length; i++) {
            due("0 and " + i, x.rhymes(0, i), wants[i]);
            due(i + " and 0", x.rhymes(i, 0), wants[i]);
        }
        due("whole and more", x.rhymes(2, 1), 2);
        for (int no : NO_INDEX) {
            due("no song", x.rhymes(no, 0), NO_SUCH);
            due("no song", x.rhymes(0, no), NO_SUCH);
        }
        due("song 7", x.rhymes(0, 7), NO_SUCH);
    }

    private static void follows() {
        promise = "16";
        CountedSongs x = told("Sab;Sbc;Sbd;Sca;B;B;L0.0", 7);
        due("stops", x.follows(0, 0), 0);
        x.lesson(0, 1, 0);
        due("b is behind b, c behind b is fresher", x.follows(0, 0), 8);
        x.lesson(0, 3, 0);
        due("a is behind c", x.follows(0, 1), 1);
        due("b is behind a", x.follows(0, 3), 2 + 4);
        due("d stops", x.follows(0, 2), 0);
        due("another parrot", x.follows(1, 3), 0);
        CountedSongs y = told("Saba;Sb;Sc;B;L0.0", 5);
        due("goes on with the song 1", y.follows(0, 0), 2);
        due("goes on with the song 0", y.follows(0, 1), 1);
        for (int no : NO_INDEX) {
            due("no parrot", x.follows(no, 0), NO_SUCH);
            due("no song", x.follows(0, no), NO_SUCH);
        }
        due("song 4", x.follows(0, 4), NO_SUCH);
        due("parrot 2", x.follows(2, 0), NO_SUCH);
    }

    private static void count() {
        promise = "17";
        CountedSongs x = told("Sabc;Sxz;B;B;B;L0.0;L1.1;N;N;L2.0;L0.1", 11);
        x.set(ParrotSongs.TIRE, 2);
        x.set(ParrotSongs.SPAN, 25);
        x.set(ParrotSongs.GAIN, 2);
        x.set(ParrotSongs.FADE, 3);
        Check.write(x, "SabcdeSabcde");
        int[] wants = {2, 2, 3, 4, 10, 3, 3, 5, 25, 3, 2, 2, 12, 5};
        for (int what = 0; what < wants.length; what++) {
            due("count " + what, x.count(what), wants[what]);
        }
        due("what -1", x.count(-1), BAD_VALUE);
        due("what 14", x.count(14), BAD_VALUE);
        due("far off", x.count(Integer.MIN_VALUE), BAD_VALUE);
        CountedSongs y = told("Sabc;Sb;Sc;Sd;Se;Sf;Sg;Sabd;B;B;B;B;L0.7;L1.7;L2.7;L3.7;L3.0/1", 17);
        y.set(ParrotSongs.TIRE, 3);
        int[] full = {0, 8, 4, 5, 14, 10, 0, 15};
        for (int what = 0; what < full.length; what++) {
            due("full count " + what, y.count(what), full[what]);
        }
        due("songs known", y.of(0, 6), 254);
        due("parrots", y.ofSong(6, 5), 15);
        due("follows", y.follows(3, 6), 0);
        due("best lesson", y.bestLesson(3, 0), NONE);
        due("best lesson", y.bestLesson(3, 1), NONE);
        due("mistake", y.mistake(0, 0, 2), 128);
    }

    private static void lessonsFor() {
        promise = "18";
        CountedSongs x = told("Sabc;Sabd;Sx;Sabac;B;B", 6);
        due("one", x.lessonsFor(0, 0), 1);
        due("one bar", x.lessonsFor(0, 2), 0);
        due("never", x.lessonsFor(0, 3), NONE);
        for (int i = 0; i < 3; i++) {
            x.lesson(0, 0, 0);
            x.hush(0);
        }
        due("known", x.lessonsFor(0, 0), 0);
        due("bd is as strong as bc behind three", x.lessonsFor(0, 1), 3);
        x.set(ParrotSongs.TIRE, 1);
        due("being tired does not matter", x.lessonsFor(0, 1), 3);
        due("nothing changes", x.knows(0, 1), 50);
        due("nor today", x.of(0, 3), 9);
        x.set(ParrotSongs.GAIN, 3);
        due("grows faster", x.lessonsFor(0, 1), 1);
        due("another parrot", x.lessonsFor(1, 1), 1);
        x.set(ParrotSongs.SPAN, 4);
        CountedSongs y = told("Sabcdef;B;L0.0;H0", 4);
        y.set(ParrotSongs.SPAN, 4);
        due("the first link is forgotten", y.lessonsFor(0, 0), 0);
        due("hushed ahead of each one", told("Sab;Saaaa;B;L0.1", 4).lessonsFor(0, 0), 3);
        due("not only ahead of the first one", told("Saba;Saaa;B;L0.1", 4).lessonsFor(0, 0), 2);
        due("as strong as can be", told("Sab;Saaaaaaaaaaaa;B;L0.1", 4).lessonsFor(0, 0), 9);
        for (int no : NO_INDEX) {
            due("no parrot", x.lessonsFor(no, 0), NO_SUCH);
            due("no song", x.lessonsFor(0, no), NO_SUCH);
        }
        due("song 4", x.lessonsFor(0, 4), NO_SUCH);
        due("parrot 2", x.lessonsFor(2, 0), NO_SUCH);
    }

    private static void bestLesson() {
        promise = "19";
        CountedSongs x = told("Sabcde;Sabc;Sx;Sbcd;B;B", 6);
        due("the song", x.bestLesson(0, 0), 0);
        due("all of them", x.bestLesson(0, 1), 400);
        due("now", x.knows(0, 0), 0);
        x.lesson(0, 0, 0);
        due("none helps", x.bestLesson(0, 0), NONE);
        due("none helps", x.bestLesson(0, 1), NONE);
        due("another parrot", x.bestLesson(1, 0), 0);
        due("what 2", x.bestLesson(0, 2), BAD_VALUE);
        due("what -1", x.bestLesson(0, -1), BAD_VALUE);
        due("no such first", x.bestLesson(2, 2), NO_SUCH);
        for (int no : NO_INDEX) {
            due("no parrot", x.bestLesson(no, 0), NO_SUCH);
            due("no what", x.bestLesson(0, no), BAD_VALUE);
        }
        due("no songs", told("B", 1).bestLesson(0, 0), NONE);
        CountedSongs y = told("Sxy;Sab;Scd;B", 4);
        due("of several the lowest one", y.bestLesson(0, 0), 0);
        due("together", y.bestLesson(0, 1), 100);
        y.set(ParrotSongs.TIRE, 1);
        y.lesson(0, 0, 0);
        due("tired", y.lesson(0, 0, 0), NOT_POSSIBLE);
        due("being tired does not matter", y.bestLesson(0, 0), 0);
        due("nothing changes", y.of(0, 4), 1);
        // without a hush the link from the last bar comes, too
        CountedSongs z = told("Sab;Sba;B;L0.1/1", 4);
        due("ab comes ahead of ba", z.bestLesson(0, 0), 1);
        due("both are known", z.bestLesson(0, 1), 200);
        z.lesson(0, 0, 1);
        due("ba comes ahead of ab", z.bestLesson(0, 0), 0);
        due("both are known", z.bestLesson(0, 1), 200);
    }

    private static void keeps() {
        promise = "20";
        CountedSongs x = told("Sab;Scd;Sx;B;B;L0.0;H0;L0.0;H0", 9);
        due("strength 2, heard today", x.keeps(0, 0), 3);
        due("not now", x.keeps(0, 1), 0);
        due("one bar", x.keeps(0, 2), NONE);
        x.night();
        due("strength 2", x.keeps(0, 0), 2);
        due("nothing changes", x.of(0, 1), 2);
        due("nor the nights", x.count(0), 1);
        x.set(ParrotSongs.FADE, 3);
        due("fades fast", x.keeps(0, 0), 1);
        x.set(ParrotSongs.FADE, 0);
        due("for ever", x.keeps(0, 0), NONE);
        due("another parrot", x.keeps(1, 0), 0);
        // ab was heard more often, ac was heard today
        CountedSongs y = told("Sab;Sac;B;L0.0;H0;L0.0;N;L0.1;H0", 9);
        due("ab until ac is as strong", y.knows(0, 0), 100);
        due("ac is the freshest one", y.keeps(0, 0), 1);
        for (int no : NO_INDEX) {
            due("no parrot", x.keeps(no, 0), NO_SUCH);
            due("no song", x.keeps(0, no), NO_SUCH);
        }
        due("song 3", x.keeps(0, 3), NO_SUCH);
        due("parrot 2", x.keeps(2, 0), NO_SUCH);
    }

    private static void put() {
        promise = "21";
        CountedSongs x = new CountedSongs();
        due("one", x.put(Check.packed("S")), 1);
        due("eight", x.put(Check.packed("abcdefgh")), 9);
        due("order", x.fault(), NONE);
        due("carried out", x.carryOut(), 1);
        for (int i = 0; i < 8; i++) {
            due("bar", x.bar(0, i), i);
        }
        due("none", x.put(0), BAD_VALUE);
        due("code 32", x.put(32), BAD_VALUE);
        due("code 33", x.put(33), 1);
        due("code 126", x.put(126), 2);
        due("code 127", x.put(127), BAD_VALUE);
        due("code 128", x.put(128), BAD_VALUE);
        due("code 255", x.put(255), BAD_VALUE);
        due("all bits", x.put(-1), BAD_VALUE);
        due("a gap", x.put(0x4100_42L), BAD_VALUE);
        due("a gap at the end", x.put(0x4100L), BAD_VALUE);
        due("a bit far above", x.put(0x0100_0000_0000_0042L), BAD_VALUE);
        due("the highest bit", x.put(Long.MIN_VALUE | 0x42), BAD_VALUE);
        due("a wrong one among right ones", x.put(0x4241_2042L), BAD_VALUE);
        due("a wrong first one", x.put(0x8041_4141_4141_4141L), BAD_VALUE);
        due("length", x.count(12), 2);
        due("no change", x.count(13), 1);
        for (int i = 1; i <= 9; i++) {
            due("eight more", x.put(Check.packed("~!zZ09;*")), 2 + 8 * i);
        }
        due("81", x.put(Check.packed("BBBBBBB")), TOO_MANY);
        due("bad value comes first", x.put(Check.packed("BBBBBBB ")), BAD_VALUE);
        due("80", x.put(Check.packed("BBBBBB")), 80);
        due("81", x.put(Check.packed("B")), TOO_MANY);
        due("length", x.count(12), 80);
    }

    private static void wipe() {
        promise = "22";
        CountedSongs x = new CountedSongs();
        due("empty", x.wipe(), 0);
        Check.write(x, "B;B;B;B;B");
        due("nine", x.wipe(), 9);
        due("empty", x.count(12), 0);
        due("empty", x.fault(), 0);
        due("no change", x.count(13), 0);
        Check.write(x, "N");
        due("one", x.carryOut(), 1);
        due("parrots", x.count(2), 0);
    }

    private static void dueFault(String text, int want) {
        CountedSongs x = new CountedSongs();
        Check.write(x, text);
        due("fault of " + text, x.fault(), want);
        due("carryOut of " + text, want == NONE ? 0 : x.carryOut(), want == NONE ? 0 : BAD_TEXT);
        due("length of " + text, x.count(12), text.length());
        due("no change by " + text, x.count(13), 0);
    }

    private static void fault() {
        promise = "23";
        String[] right = {
            "Sa", "Sz", "Sabcdefghijklmnopqrst", "B", "N", "H0", "H9", "L0.0", "L9.9", "L0.0/0", "L0.0/9", "L0.0/10",
            "L0.0/99", "P0*0", "P9*5", "P3*99", "P3*40", "B;B", "N;Sabc;L0.0/19;H3;P1*12;B", "Sa;Sa;Sa",
            "Sabcdefghijklmnopqrst;Sabcdefghijklmnopqrst;Sabcdefghijklmnopqrst;Sabcdefghijkl"};
        for (String text : right) {
            dueFault(text, NONE);
        }
        String[] tooEarly = {
            "", "S", "H", "L", "L0", "L0.", "L0.0/", "P", "P0", "P0*", "B;", "Sab;", "L0.0/12;", "N;S", "N;N;", "H0;P1*"};
        for (String text : tooEarly) {
            dueFault(text, text.length());
        }
        String[] wrongLast = {
            "a", "s", "1", ";", "X", "b", "SA", "S1", "S;", "Sab1", "SabB", "S`", "S{", "Sa.", "BB", "B0", "NN", "Na", "B;;", "N;a",
            "HH", "Ha", "H00", "H0.", "H:", "H/", "La", "L00", "L0/", "L0.a", "L0..", "L0.00", "L0.0.", "L0.0*", "L0.0/a",
            "L0.0/;", "L0.0//", "L0.0/00", "L0.0/01", "L0.0/100", "L0.0/990", "L0.0/9a", "P;", "P00", "P0.", "P0/", "P0*a",
            "P0*;", "P0*00", "P0*05", "P0*100", "P0**", "Sabcdefghijklmnopqrstu", "N;Sabcdefghijklmnopqrsta"};
        for (String text : wrongLast) {
            dueFault(text, text.length() - 1);
        }
        dueFault("BBBBB", 1);
        dueFault("N;Xabc;N", 2);
        dueFault("L0.0/123/4", 7);
    }

    private static void carryOut() {
        promise = "24";
        CountedSongs x = new CountedSongs();
        due("empty", x.carryOut(), BAD_TEXT);
        due("nothing recorded", x.count(13), 0);
        Check.write(x, "Sabc;B;L0.0");
        due("three", x.carryOut(), 3);
        due("empty", x.count(12), 0);
        due("one change", x.count(13), 1);
        due("heard", x.of(0, 3), 3);
        due("up to the first error", Check.tell(x, "B;L0.1;B;B"), 1);
        due("parrots", x.count(2), 2);
        due("emptied", x.count(12), 0);
        due("two changes", x.count(13), 2);
        due("none carried out", Check.tell(x, "H7;B"), 0);
        due("emptied", x.count(12), 0);
        due("a change all the same", x.count(13), 3);
        due("NONE is no error", Check.tell(x, "H1;H1;B"), 3);
        due("a fault", Check.tell(x, "B;B;X"), BAD_TEXT);
        due("stays", x.count(12), 5);
        due("nothing carried out", x.count(2), 3);
        due("not recorded", x.count(13), 4);
        x.wipe();
        due("undo all the orders of the text", x.undo(), 3);
        due("parrots", x.count(2), 2);
        due("undo the text that did nothing", x.undo(), 2);
        due("undo", x.undo(), 1);
        due("undo", x.undo(), 0);
        due("songs", x.count(1), 0);
        due("parrots", x.count(2), 0);
        due("pad", x.count(12), 0);
    }

    private static void ordersOfTexts() {
        promise = "24";
        CountedSongs x = told("Sa;Sb;Sc;Sd;Se;Sf;Sg;Sabcdefghijklmnopqrst;Sh;B", 8);
        due("no ninth song", x.count(1), 8);
        due("no parrot", x.count(2), 0);
        due("no fifth parrot", Check.tell(x, "B;B;B;B;B"), 4);
        due("from", Check.tell(x, "L0.7/17;L1.7/0;L2.7"), 3);
        due("three", x.of(0, 3), 3);
        due("last three", x.link(0, 1, 0), 17);
        due("twenty", x.of(1, 3), 20);
        due("twenty", x.of(2, 3), 20);
        due("no such bar", Check.tell(x, "L0.7/20"), 0);
        due("no such bar", Check.tell(x, "L0.0/1"), 0);
        due("no such song", Check.tell(x, "L0.8"), 0);
        due("no such parrot", Check.tell(x, "L4.0"), 0);
        due("tired", Check.tell(x, "L1.7"), 0);
        due("tired", Check.tell(x, "P1*1"), 0);
        due("a night", Check.tell(x, "N"), 1);
        due("no last bar", Check.tell(x, "P1*1"), 0);
        due("practise", Check.tell(x, "L0.7/17;P0*0"), 1);
        due("practise", Check.tell(x, "P0*41"), 0);
        due("practise", Check.tell(x, "H0;L0.7/18;H0;L0.7/17;H0;L1.2;P1*12"), 7);
        due("twelve bars d to o", x.of(0, 2), 14);
        due("hush", Check.tell(x, "H0;H9"), 1);
        due("hushed", x.of(0, 2), NONE);
    }

    private static void undo() {
        promise = "25";
        CountedSongs x = new CountedSongs();
        for (int i = 0; i < 4; i++) {
            x.parrot();
        }
        for (int i = 0; i < 4; i++) {
            x.night();
        }
        due("six", x.count(13), 6);
        for (int i = 5; i >= 0; i--) {
            due("undo", x.undo(), i);
            due("nights", x.count(0), Math.max(0, i - 2));
            due("parrots", x.count(2), Math.min(4, i + 2));
        }
        due("no more", x.undo(), NOT_POSSIBLE);
        due("parrots", x.count(2), 2);
        due("again", x.parrot(), 2);
        Check.write(x, "N;N");
        x.save(0);
        due("undo", x.undo(), 0);
        due("the pad stays", x.count(12), 3);
        due("the slot stays", x.restore(0), 0);
        due("parrots", x.count(2), 3);
        CountedSongs y = new CountedSongs();
        for (int i = 0; i < 9; i++) {
            y.night();
            due("an error records nothing", y.hush(0), NO_SUCH);
        }
        for (int i = 8; i > 2; i--) {
            due("undo", y.undo(), i - 3);
            due("nights", y.count(0), i);
        }
        due("no more", y.undo(), NOT_POSSIBLE);
    }

    private static void save() {
        promise = "26";
        CountedSongs x = new CountedSongs();
        due("nothing there", x.save(1), 0);
        due("slot 2", x.save(2), BAD_VALUE);
        due("slot -1", x.save(-1), BAD_VALUE);
        due("far off", x.save(Integer.MIN_VALUE), BAD_VALUE);
        Check.tell(x, "Sabc;Sd;B;L0.0");
        due("two songs", x.save(0), 2);
        due("no change", x.count(13), 1);
        x.lesson(0, 0, 0);
        due("the slot is a copy", x.restore(0), 2);
        due("heard", x.of(0, 3), 3);
        due("slot 1", x.restore(1), 0);
        due("songs", x.count(1), 0);
        due("parrots", x.count(2), 0);
        due("overwrites", x.save(0), 0);
        due("slot 0", x.restore(0), 0);
    }

    private static void restore() {
        promise = "27";
        CountedSongs x = told("Sabc;Sd;B;L0.0", 4);
        due("slot 2", x.restore(2), BAD_VALUE);
        due("slot -1", x.restore(-1), BAD_VALUE);
        due("nothing saved", x.restore(0), NOT_POSSIBLE);
        due("not recorded", x.count(13), 1);
        x.save(0);
        x.set(ParrotSongs.TIRE, 33);
        x.parrot();
        x.night();
        Check.tell(x, "Sxy");
        Check.write(x, "pad");
        due("restore", x.restore(0), 2);
        due("songs", x.count(1), 2);
        due("parrots", x.count(2), 1);
        due("nights", x.count(0), 0);
        due("setting", x.count(11), 20);
        due("last bar", x.of(0, 2), 2);
        due("pad", x.count(12), 3);
        due("the history stays, and has one more", x.count(13), 6);
        due("undo", x.undo(), 5);
        due("songs", x.count(1), 3);
        due("setting", x.count(11), 33);
        due("keeps it", x.restore(0), 2);
        due("lesson", x.lesson(0, 0, 0), 3);
        due("the slot is not touched", x.restore(0), 2);
        due("heard", x.of(0, 3), 3);
        due("the other slot", x.restore(1), NOT_POSSIBLE);
        CountedSongs y = told("Sabc;Sd", 2);
        y.save(1);
        y.undo();
        Check.tell(y, "Sxy");
        due("two songs again", y.restore(1), 2);
        due("bars", y.ofSong(0, 0), 3);
        due("first bar", y.bar(0, 0), 0);
        due("the other song", y.bar(1, 0), 3);
        due("undo", y.undo(), 1);
        due("bars", y.ofSong(0, 0), 2);
        due("first bar", y.bar(0, 0), 23);
        due("far off", x.restore(Integer.MAX_VALUE), BAD_VALUE);
    }
}
