import java.util.Set;
import java.util.function.Consumer;
import java.util.function.Supplier;

/** What the tests of single sentences have in common. */
abstract class Edges {
    static final int NO_SUCH = -1, BAD_VALUE = -2, BAD_TEXT = -3, TOO_MANY = -4, NOT_POSSIBLE = -5, NONE = -6;
    static final int SPAN = 0, FADE = 1, GAIN = 2, TIRE = 3;
    static final int LEAST = Integer.MIN_VALUE, MOST = Integer.MAX_VALUE;
    /** The bars of the longest song. */
    static final String TWENTY = "abcdefghijklmnopqrst";

    private static String name = "";

    /** A call with one of its numbers open. */
    interface Asking {
        int ask(CountedSongs x, int number);
    }

    static void name(String test) {
        name = test;
    }

    static void due(String call, long got, long want) {
        Check.due(name + call, got, want);
    }

    static void due(String call, String got, String want) {
        Check.due(name + call, got, want);
    }

    static void holds(String claim, boolean holds) {
        Check.holds(name + claim, holds);
    }

    /** Carries a text out, of which each order has to be carried out. */
    static void tell(CountedSongs x, String text) {
        due(text, Check.tell(x, text), text.split(";").length);
    }

    /** A new object in which texts were carried out. */
    static CountedSongs told(String... texts) {
        CountedSongs x = new CountedSongs();
        for (String text : texts) {
            tell(x, text);
        }
        return x;
    }

    /** A parrot's links, the freshest one first: ab3* leads from a to b, has the strength 3, and was heard today. */
    static String links(CountedSongs x, int parrot) {
        StringBuilder all = new StringBuilder();
        int links = x.of(parrot, 0);
        for (int rank = 0; rank < links; rank++) {
            all.append(rank == 0 ? "" : " ").append((char) ('a' + x.link(parrot, rank, 0)));
            all.append((char) ('a' + x.link(parrot, rank, 1))).append(x.link(parrot, rank, 2));
            all.append(x.link(parrot, rank, 3) == 1 ? "*" : "");
        }
        return all.toString();
    }

    /** What there is, as a text: all that undo and restore bring back. */
    static String seen(CountedSongs x) {
        StringBuilder all = new StringBuilder();
        for (int what = 0; what <= 11; what++) {
            all.append(x.count(what)).append(' ');
        }
        int songs = x.count(1);
        for (int song = 0; song < songs; song++) {
            for (int what = 0; what <= 5; what++) {
                all.append(x.ofSong(song, what)).append(' ');
            }
            for (int i = x.ofSong(song, 0) - 1; i >= 0; i--) {
                all.append((char) ('a' + x.bar(song, i)));
            }
        }
        int parrots = x.count(2);
        for (int parrot = 0; parrot < parrots; parrot++) {
            for (int what = 0; what <= 6; what++) {
                all.append(' ').append(x.of(parrot, what));
            }
            all.append(' ').append(links(x, parrot));
        }
        return all.toString();
    }

    /** All that calls can tell behind a call: what there is, the pad, each state of the history, and both slots. */
    static String everything(Supplier<CountedSongs> made, Consumer<CountedSongs> call) {
        StringBuilder all = new StringBuilder();
        CountedSongs x = behind(made, call);
        int changes = x.count(13);
        all.append(seen(x)).append(" pad ").append(x.count(12)).append(' ').append(x.fault()).append('\n');
        CountedSongs carried = behind(made, call);
        all.append("carried ").append(carried.carryOut()).append(' ').append(seen(carried)).append('\n');
        for (int back = 1; back <= changes; back++) {
            CountedSongs undone = behind(made, call);
            for (int i = 0; i < back; i++) {
                all.append("back ").append(undone.undo()).append(' ');
            }
            all.append(seen(undone)).append('\n');
        }
        for (int slot = 0; slot < 2; slot++) {
            CountedSongs restored = behind(made, call);
            all.append("slot ").append(restored.restore(slot)).append(' ').append(seen(restored)).append('\n');
        }
        return all.toString();
    }

    private static CountedSongs behind(Supplier<CountedSongs> made, Consumer<CountedSongs> call) {
        CountedSongs x = made.get();
        call.accept(x);
        return x;
    }

    /** Asks of numbers that are there, and of all around them, in a house of so many parrots. */
    private static void dueThere(CountedSongs x, String what, int there, Set<Integer> asked, Asking asking) {
        for (int number : asked) {
            int answer = asking.ask(x, number);
            boolean is = number >= 0 && number < there;
            holds(what + " " + number + " of " + there + " answered " + answer, (answer == NO_SUCH) != is);
        }
    }

    /** In houses of no parrot up to the most: those that came are there, and no others. */
    static void dueParrots(Asking asking) {
        for (int parrots = 0; parrots <= 4; parrots++) {
            CountedSongs x = told("Sabc" + ";B".repeat(parrots));
            for (int i = 0; i < parrots; i++) {
                x.lesson(i, 0, 0);
            }
            dueThere(x, "parrot", parrots, Set.of(LEAST, -2, -1, 0, 1, 2, 3, 4, 5, 8, 256, MOST), asking);
        }
    }

    /** In houses of no song up to the most: those that came are there, and no others. */
    static void dueSongs(Asking asking) {
        for (int songs = 0; songs <= 8; songs++) {
            CountedSongs x = told("B" + ";Sab".repeat(songs));
            dueThere(x, "song", songs, Set.of(LEAST, -2, -1, 0, 1, 2, 3, 4, 5, 6, 7, 8, 9, 32, 256, MOST), asking);
        }
    }

    /** From the least to the most, in a new house each time, the call has an answer; on both sides of that BAD_VALUE. */
    static void dueRange(Supplier<CountedSongs> made, int least, int most, Asking asking) {
        for (int number = least; number <= most; number++) {
            int answer = asking.ask(made.get(), number);
            holds(number + " answered " + answer, answer != BAD_VALUE);
        }
        for (int number : new int[] {LEAST, least - 256, least - 1, most + 1, most + 256, MOST}) {
            due("" + number, asking.ask(made.get(), number), BAD_VALUE);
        }
    }
}
