/** A house of songs, and of parrots that learn them by links from bar to bar. */
public final class ParrotSongs {
    public static final int NO_SUCH = -1, BAD_VALUE = -2, BAD_TEXT = -3, TOO_MANY = -4, NOT_POSSIBLE = -5, NONE = -6;
    public static final int SPAN = 0, FADE = 1, GAIN = 2, TIRE = 3;

    private static final int SETTINGS = 4;
    private static final int[] LEAST_VALUES = {4, 0, 1, 1};
    private static final int[] MOST_VALUES = {60, 3, 3, 60};
    private static final int[] FIRST_VALUES = {24, 1, 1, 20};

    private static final int MOST_SONGS = 8;
    private static final int MOST_BARS = 20;
    private static final int MOST_PARROTS = 4;
    private static final int MOST_PRACTISED = 40;
    private static final int MOST_NIGHTS = 999;
    private static final int LETTERS = 26;
    private static final int MOST_STEPS = 99;
    private static final int LOOK_AHEAD = 30;
    private static final int SLOTS = 2;
    private static final int WHOLE = 100;

    private final House house = new House();
    private final History history = new History();
    private final Reader reader = new Reader();
    private final House[] slots = new House[SLOTS];
    private final boolean[] saved = new boolean[SLOTS];
    /** The parrot on which what-if questions are tried out. */
    private final Parrot pupil = new Parrot();

    /** Creates a house without songs and parrots, on the day 0. */
    public ParrotSongs() {
        for (int i = 0; i < SLOTS; i++) {
            slots[i] = new House();
        }
    }

    // ---- changes

    /** Changes a setting, and returns its previous value. */
    public int set(int setting, int value) {
        history.noteBefore(house);
        return history.keepUnlessError(house.changeSetting(setting, value));
    }

    /** A parrot comes; returns its number. */
    public int parrot() {
        history.noteBefore(house);
        return history.keepUnlessError(house.addParrot());
    }

    /** A parrot hears a song from a bar on; returns how many bars it hears. */
    public int lesson(int parrot, int song, int from) {
        history.noteBefore(house);
        return history.keepUnlessError(house.teach(parrot, song, from));
    }

    /** Takes a parrot's last bar away, and returns it. */
    public int hush(int parrot) {
        history.noteBefore(house);
        return history.keepUnlessError(house.silence(parrot));
    }

    /** A parrot sings on from its last bar, and all hear it; returns how many bars it sings. */
    public int practise(int parrot, int bars) {
        history.noteBefore(house);
        return history.keepUnlessError(house.letPractise(parrot, bars));
    }

    /** A night passes; returns how many links are forgotten in it. */
    public int night() {
        history.noteBefore(house);
        return history.keepUnlessError(house.passNight());
    }

    // ---- what there is

    /** Returns something about a song. */
    public int ofSong(int song, int what) {
        Songbook songs = house.songs;
        if (!songs.has(song)) {
            return NO_SUCH;
        }
        switch (what) {
            case 0: return songs.lengthOf(song);
            case 1: return songs.unlikeBars(song);
            case 2: return songs.barAt(song, 0);
            case 3: return songs.lastBar(song);
            case 4: return songs.lessonsWith(song);
            case 5: return house.parrotsKnowing(song);
            default: return BAD_VALUE;
        }
    }

    /** Returns a bar of a song. */
    public int bar(int song, int index) {
        if (!house.songs.hasBar(song, index)) {
            return NO_SUCH;
        }
        return house.songs.barAt(song, index);
    }

    /** Returns something about a parrot. */
    public int of(int parrot, int what) {
        if (!house.hasParrot(parrot)) {
            return NO_SUCH;
        }
        Parrot bird = house.parrots[parrot];
        switch (what) {
            case 0: return bird.count;
            case 1: return bird.strengthInAll();
            case 2: return bird.last;
            case 3: return bird.heardToday;
            case 4: return bird.heardInAll;
            case 5: return bird.forgotten;
            case 6: return house.songs.knownBy(bird);
            default: return BAD_VALUE;
        }
    }

    /** Returns something about a link of a parrot, the freshest one having the rank 0. */
    public int link(int parrot, int rank, int what) {
        if (!house.hasParrot(parrot) || rank < 0 || rank >= house.parrots[parrot].count) {
            return NO_SUCH;
        }
        if (what < 0 || what >= Parrot.COLUMNS) {
            return BAD_VALUE;
        }
        return house.parrots[parrot].ofLink(rank, what);
    }

    /** Returns the bar that a parrot sings some bars behind a bar. */
    public int sings(int parrot, int bar, int steps) {
        if (!house.hasParrot(parrot)) {
            return NO_SUCH;
        }
        if (bar < 0 || bar >= LETTERS || steps < 0 || steps > MOST_STEPS) {
            return BAD_VALUE;
        }
        int sung = bar;
        for (int i = 0; i < steps && sung != NONE; i++) {
            sung = house.parrots[parrot].nextBehind(sung);
        }
        return sung;
    }

    /** Tells in hundredths how well a parrot knows a song. */
    public int knows(int parrot, int song) {
        if (!house.hasParrot(parrot) || !house.songs.has(song)) {
            return NO_SUCH;
        }
        return house.songs.hundredths(house.parrots[parrot], song);
    }

    /** Tells about the first mistake of a parrot in a song. */
    public int mistake(int parrot, int song, int what) {
        Songbook songs = house.songs;
        if (!house.hasParrot(parrot) || !songs.has(song)) {
            return NO_SUCH;
        }
        if (what < 0 || what > 2) {
            return BAD_VALUE;
        }
        Parrot bird = house.parrots[parrot];
        int index = songs.firstWrong(bird, song);
        if (index >= songs.lengthOf(song)) {
            return NOT_POSSIBLE;
        }
        if (what == 0) {
            return index;
        }
        int ahead = songs.barAt(song, index - 1);
        int sung = bird.nextBehind(ahead);
        return what == 1 ? sung : songs.songsWithPair(ahead, sung);
    }

    /** Tells by how many of their last bars two songs rhyme. */
    public int rhymes(int song, int other) {
        if (!house.songs.has(song) || !house.songs.has(other)) {
            return NO_SUCH;
        }
        return house.songs.sameAtEnd(song, other);
    }

    /** Returns the songs with which a parrot goes on behind a song, as a set. */
    public int follows(int parrot, int song) {
        if (!house.hasParrot(parrot) || !house.songs.has(song)) {
            return NO_SUCH;
        }
        int next = house.parrots[parrot].nextBehind(house.songs.lastBar(song));
        return house.songs.songsFrom(next);
    }

    /** Returns a number about the whole. */
    public int count(int what) {
        switch (what) {
            case 0: return house.nights;
            case 1: return house.songs.count;
            case 2: return house.parrotCount;
            case 3: return house.songs.lessonsInAll();
            case 4: return house.heardByAll();
            case 5: return house.linksOfAll();
            case 6: return house.forgottenByAll();
            case 7: return house.tiredParrots();
            case 8: return house.settings[SPAN];
            case 9: return house.settings[FADE];
            case 10: return house.settings[GAIN];
            case 11: return house.settings[TIRE];
            case 12: return reader.pad.length;
            case 13: return history.count;
            default: return BAD_VALUE;
        }
    }

    // ---- what if; nothing changes

    /** Tells behind how many lessons with a song, hushed ahead of each one, a parrot would know it. */
    public int lessonsFor(int parrot, int song) {
        if (!house.hasParrot(parrot) || !house.songs.has(song)) {
            return NO_SUCH;
        }
        pupil.copyFrom(house.parrots[parrot]);
        for (int lessons = 0; lessons <= LOOK_AHEAD; lessons++) {
            if (house.songs.isKnownBy(pupil, song)) {
                return lessons;
            }
            pupil.last = NONE;
            house.singWholeTo(pupil, song);
        }
        return NONE;
    }

    /** Finds the song whose lesson now would help a parrot the most. */
    public int bestLesson(int parrot, int what) {
        if (!house.hasParrot(parrot)) {
            return NO_SUCH;
        }
        if (what != 0 && what != 1) {
            return BAD_VALUE;
        }
        Parrot bird = house.parrots[parrot];
        int best = NONE;
        int most = house.songs.hundredthsInAll(bird);
        for (int song = 0; song < house.songs.count; song++) {
            pupil.copyFrom(bird);
            house.singWholeTo(pupil, song);
            int hundredths = house.songs.hundredthsInAll(pupil);
            if (hundredths > most) {
                best = song;
                most = hundredths;
            }
        }
        if (best == NONE) {
            return NONE;
        }
        return what == 0 ? best : most;
    }

    /** Tells behind how many nights a parrot that hears nothing more does not know a song any more. */
    public int keeps(int parrot, int song) {
        if (!house.hasParrot(parrot) || !house.songs.has(song)) {
            return NO_SUCH;
        }
        pupil.copyFrom(house.parrots[parrot]);
        for (int nights = 0; nights <= LOOK_AHEAD; nights++) {
            if (!house.songs.isKnownBy(pupil, song)) {
                return nights;
            }
            pupil.sleep(house.settings[FADE]);
        }
        return NONE;
    }

    // ---- texts

    /** Appends up to 8 characters to the pad, and returns its length then. */
    public int put(long characters) {
        return reader.pad.append(characters);
    }

    /** Empties the pad, and returns the length that it had. */
    public int wipe() {
        int length = reader.pad.length;
        reader.pad.length = 0;
        return length;
    }

    /** Returns the index at which the pad can't be read on, NONE if it is a text. */
    public int fault() {
        return reader.findFault();
    }

    /** Carries the orders of the pad out, and returns how many were. */
    public int carryOut() {
        if (reader.findFault() != NONE) {
            return BAD_TEXT;
        }
        history.noteBefore(house);
        int done = 0;
        reader.start();
        while (done < Pad.MOST && reader.readNext() && !isError(carryOrder())) {
            done++;
        }
        reader.pad.length = 0;
        return history.keepUnlessError(done);
    }

    // ---- undo, saving

    /** Undoes the latest change, and returns how many can be undone then. */
    public int undo() {
        if (history.count == 0) {
            return NOT_POSSIBLE;
        }
        return history.takeBack(house);
    }

    /** Saves the house in a slot, and returns how many songs there are. */
    public int save(int slot) {
        if (slot < 0 || slot >= SLOTS) {
            return BAD_VALUE;
        }
        slots[slot].copyFrom(house);
        saved[slot] = true;
        return house.songs.count;
    }

    /** Restores the house from a slot, and returns how many songs there are then. */
    public int restore(int slot) {
        if (slot < 0 || slot >= SLOTS) {
            return BAD_VALUE;
        }
        if (!saved[slot]) {
            return NOT_POSSIBLE;
        }
        history.noteBefore(house);
        house.copyFrom(slots[slot]);
        return history.keepUnlessError(house.songs.count);
    }

    // ---- helpers

    /** NONE is an answer, and no error. */
    private static boolean isError(int answer) {
        return answer <= NO_SUCH && answer >= NOT_POSSIBLE;
    }

    /** Carries out the order that was read last, and returns its answer. */
    private int carryOrder() {
        switch (reader.kind) {
            case 'S': return house.songs.add(reader.bars, reader.barCount);
            case 'B': return house.addParrot();
            case 'L': return house.teach(reader.parrot, reader.song, reader.number);
            case 'H': return house.silence(reader.parrot);
            case 'P': return house.letPractise(reader.parrot, reader.number);
            case 'N': return house.passNight();
            default: return BAD_TEXT;
        }
    }

    /** A parrot's memory, and what it heard. */
    private static final class Parrot {
        static final int FROM = 0, TO = 1, STRENGTH = 2, HEARD = 3, COLUMNS = 4;
        /** One more than the largest SPAN: a link comes before one is forgotten. */
        private static final int MOST_LINKS = 61;
        private static final int STRONGEST = 9;

        /** The links, column by column, the least fresh one first. */
        private final int[][] links = new int[COLUMNS][MOST_LINKS];
        int count = 0;
        int last = NONE;
        int heardToday = 0;
        int heardInAll = 0;
        int forgotten = 0;

        void copyFrom(Parrot other) {
            for (int column = 0; column < COLUMNS; column++) {
                System.arraycopy(other.links[column], 0, links[column], 0, MOST_LINKS);
            }
            count = other.count;
            last = other.last;
            heardToday = other.heardToday;
            heardInAll = other.heardInAll;
            forgotten = other.forgotten;
        }

        void hear(int bar, int gain, int span) {
            if (last != NONE) {
                grow(last, bar, gain);
                if (count > span) {
                    remove(weakest());
                    forgotten++;
                }
            }
            last = bar;
            heardToday++;
            heardInAll++;
        }

        /** Lets a link grow or come, as the freshest one. */
        private void grow(int from, int to, int gain) {
            int strength = gain;
            int index = find(from, to);
            if (index != NONE) {
                strength = Math.min(STRONGEST, links[STRENGTH][index] + gain);
                remove(index);
            }
            if (count < MOST_LINKS) {
                write(count, from, to, strength, 1);
                count++;
            }
        }

        private int find(int from, int to) {
            for (int i = 0; i < count; i++) {
                if (links[FROM][i] == from && links[TO][i] == to) {
                    return i;
                }
            }
            return NONE;
        }

        /** Finds the least strong link, of several the least fresh one. */
        private int weakest() {
            int weakest = 0;
            for (int i = 1; i < count; i++) {
                if (links[STRENGTH][i] < links[STRENGTH][weakest]) {
                    weakest = i;
                }
            }
            return weakest;
        }

        private void remove(int index) {
            if (index < 0 || index >= count) {
                return;
            }
            for (int column = 0; column < COLUMNS; column++) {
                System.arraycopy(links[column], index + 1, links[column], index, count - index - 1);
            }
            count--;
        }

        private void write(int index, int from, int to, int strength, int heard) {
            links[FROM][index] = from;
            links[TO][index] = to;
            links[STRENGTH][index] = strength;
            links[HEARD][index] = heard;
        }

        /** Lets a night pass, and returns how many links are forgotten in it. */
        int sleep(int fade) {
            int kept = 0;
            for (int i = 0; i < count; i++) {
                int strength = links[STRENGTH][i] - (links[HEARD][i] == 1 ? 0 : fade);
                if (strength >= 1) {
                    write(kept, links[FROM][i], links[TO][i], strength, 0);
                    kept++;
                }
            }
            int gone = count - kept;
            count = kept;
            forgotten += gone;
            last = NONE;
            heardToday = 0;
            return gone;
        }

        /** Returns the bar to which the parrot goes on, NONE if it stops. */
        int nextBehind(int bar) {
            int next = NONE;
            int most = 0;
            for (int i = count - 1; i >= 0; i--) {
                if (links[FROM][i] == bar && links[STRENGTH][i] > most) {
                    next = links[TO][i];
                    most = links[STRENGTH][i];
                }
            }
            return next;
        }

        int strengthInAll() {
            int sum = 0;
            for (int i = 0; i < count; i++) {
                sum += links[STRENGTH][i];
            }
            return sum;
        }

        int ofLink(int rank, int column) {
            if (rank < 0 || rank >= count || column < 0 || column >= COLUMNS) {
                return NONE;
            }
            return links[column][count - 1 - rank];
        }
    }

    /** The songs, and how parrots do with them. */
    private static final class Songbook {
        private final int[][] bars = new int[MOST_SONGS][MOST_BARS];
        private final int[] lengths = new int[MOST_SONGS];
        private final int[] lessons = new int[MOST_SONGS];
        int count = 0;

        void copyFrom(Songbook other) {
            for (int song = 0; song < MOST_SONGS; song++) {
                System.arraycopy(other.bars[song], 0, bars[song], 0, MOST_BARS);
            }
            System.arraycopy(other.lengths, 0, lengths, 0, MOST_SONGS);
            System.arraycopy(other.lessons, 0, lessons, 0, MOST_SONGS);
            count = other.count;
        }

        /** A song comes; returns its number. */
        int add(int[] row, int length) {
            if (count >= MOST_SONGS) {
                return TOO_MANY;
            }
            int kept = Math.max(0, Math.min(length, Math.min(row.length, MOST_BARS)));
            System.arraycopy(row, 0, bars[count], 0, kept);
            lengths[count] = kept;
            lessons[count] = 0;
            count++;
            return count - 1;
        }

        boolean has(int song) {
            return song >= 0 && song < count;
        }

        boolean hasBar(int song, int index) {
            return has(song) && index >= 0 && index < lengths[song];
        }

        int barAt(int song, int index) {
            return hasBar(song, index) ? bars[song][index] : NONE;
        }

        int lengthOf(int song) {
            return has(song) ? lengths[song] : 0;
        }

        int lastBar(int song) {
            return barAt(song, lengthOf(song) - 1);
        }

        int unlikeBars(int song) {
            int seen = 0;
            for (int i = 0; i < lengthOf(song); i++) {
                seen |= 1 << barAt(song, i);
            }
            return Integer.bitCount(seen);
        }

        void countLesson(int song) {
            if (has(song)) {
                lessons[song]++;
            }
        }

        int lessonsWith(int song) {
            return has(song) ? lessons[song] : 0;
        }

        int lessonsInAll() {
            int sum = 0;
            for (int song = 0; song < count; song++) {
                sum += lessons[song];
            }
            return sum;
        }

        /** Returns the index of the first bar that a parrot does not sing right, the length if there is none. */
        int firstWrong(Parrot bird, int song) {
            int index = 1;
            while (index < lengthOf(song) && bird.nextBehind(barAt(song, index - 1)) == barAt(song, index)) {
                index++;
            }
            return index;
        }

        boolean isKnownBy(Parrot bird, int song) {
            return firstWrong(bird, song) >= lengthOf(song);
        }

        int hundredths(Parrot bird, int song) {
            int behindFirst = lengthOf(song) - 1;
            if (behindFirst < 1) {
                return WHOLE;
            }
            return WHOLE * (firstWrong(bird, song) - 1) / behindFirst;
        }

        int hundredthsInAll(Parrot bird) {
            int sum = 0;
            for (int song = 0; song < count; song++) {
                sum += hundredths(bird, song);
            }
            return sum;
        }

        int knownBy(Parrot bird) {
            int set = 0;
            for (int song = 0; song < count; song++) {
                if (isKnownBy(bird, song)) {
                    set |= 1 << song;
                }
            }
            return set;
        }

        /** Returns the songs that begin with a bar, as a set. */
        int songsFrom(int bar) {
            int set = 0;
            for (int song = 0; song < count; song++) {
                if (barAt(song, 0) == bar) {
                    set |= 1 << song;
                }
            }
            return set;
        }

        /** Returns the songs in which a bar comes next behind another one, as a set. */
        int songsWithPair(int ahead, int next) {
            int set = 0;
            for (int song = 0; song < count; song++) {
                if (hasPair(song, ahead, next)) {
                    set |= 1 << song;
                }
            }
            return set;
        }

        private boolean hasPair(int song, int ahead, int next) {
            for (int i = 1; i < lengthOf(song); i++) {
                if (barAt(song, i - 1) == ahead && barAt(song, i) == next) {
                    return true;
                }
            }
            return false;
        }

        int sameAtEnd(int song, int other) {
            int shorter = Math.min(lengthOf(song), lengthOf(other));
            int same = 0;
            while (same < shorter
                    && barAt(song, lengthOf(song) - 1 - same) == barAt(other, lengthOf(other) - 1 - same)) {
                same++;
            }
            return same;
        }
    }

    /** All that a change can change: what undo and the slots keep. */
    private static final class House {
        final int[] settings = new int[SETTINGS];
        final Songbook songs = new Songbook();
        final Parrot[] parrots = new Parrot[MOST_PARROTS];
        int parrotCount = 0;
        int nights = 0;
        /** The bars of a practice, kept here so that none is made anew. */
        private final int[] sung = new int[MOST_PRACTISED];

        House() {
            System.arraycopy(FIRST_VALUES, 0, settings, 0, SETTINGS);
            for (int i = 0; i < MOST_PARROTS; i++) {
                parrots[i] = new Parrot();
            }
        }

        void copyFrom(House other) {
            System.arraycopy(other.settings, 0, settings, 0, SETTINGS);
            songs.copyFrom(other.songs);
            // parrots that haven't come yet are copied, too: a parrot that comes has to be a new one
            for (int i = 0; i < MOST_PARROTS; i++) {
                parrots[i].copyFrom(other.parrots[i]);
            }
            parrotCount = other.parrotCount;
            nights = other.nights;
        }

        int changeSetting(int setting, int value) {
            if (setting < 0 || setting >= SETTINGS) {
                return BAD_VALUE;
            }
            if (value < LEAST_VALUES[setting] || value > MOST_VALUES[setting]) {
                return BAD_VALUE;
            }
            int previous = settings[setting];
            settings[setting] = value;
            return previous;
        }

        int addParrot() {
            if (parrotCount >= MOST_PARROTS) {
                return TOO_MANY;
            }
            parrotCount++;
            return parrotCount - 1;
        }

        boolean hasParrot(int parrot) {
            return parrot >= 0 && parrot < parrotCount;
        }

        boolean isTired(Parrot bird) {
            return bird.heardToday >= settings[TIRE];
        }

        int teach(int parrot, int song, int from) {
            if (!hasParrot(parrot) || !songs.has(song)) {
                return NO_SUCH;
            }
            if (!songs.hasBar(song, from)) {
                return BAD_VALUE;
            }
            Parrot bird = parrots[parrot];
            if (isTired(bird)) {
                return NOT_POSSIBLE;
            }
            int index = from;
            while (index < songs.lengthOf(song) && !isTired(bird)) {
                bird.hear(songs.barAt(song, index), settings[GAIN], settings[SPAN]);
                index++;
            }
            songs.countLesson(song);
            return index - from;
        }

        /** Sings a whole song to a parrot that does not get tired. */
        void singWholeTo(Parrot bird, int song) {
            for (int i = 0; i < songs.lengthOf(song); i++) {
                bird.hear(songs.barAt(song, i), settings[GAIN], settings[SPAN]);
            }
        }

        int silence(int parrot) {
            if (!hasParrot(parrot)) {
                return NO_SUCH;
            }
            int last = parrots[parrot].last;
            parrots[parrot].last = NONE;
            return last;
        }

        int letPractise(int parrot, int most) {
            if (!hasParrot(parrot)) {
                return NO_SUCH;
            }
            if (most < 1 || most > MOST_PRACTISED) {
                return BAD_VALUE;
            }
            Parrot singer = parrots[parrot];
            if (singer.last == NONE || isTired(singer)) {
                return NOT_POSSIBLE;
            }
            int bars = findSung(singer, most);
            singSungTo(singer, bars);
            for (int other = 0; other < parrotCount; other++) {
                if (other != parrot) {
                    singSungTo(parrots[other], bars);
                }
            }
            return bars;
        }

        /** Finds the bars of a practice before they are heard, as hearing changes the memory. */
        private int findSung(Parrot singer, int most) {
            int bars = 0;
            int bar = singer.nextBehind(singer.last);
            while (bars < most && bars < MOST_PRACTISED && bar != NONE) {
                sung[bars] = bar;
                bars++;
                bar = singer.nextBehind(bar);
            }
            return bars;
        }

        private void singSungTo(Parrot bird, int bars) {
            for (int i = 0; i < bars && i < MOST_PRACTISED && !isTired(bird); i++) {
                bird.hear(sung[i], settings[GAIN], settings[SPAN]);
            }
        }

        int passNight() {
            if (nights >= MOST_NIGHTS) {
                return NOT_POSSIBLE;
            }
            int gone = 0;
            for (int i = 0; i < parrotCount; i++) {
                gone += parrots[i].sleep(settings[FADE]);
            }
            nights++;
            return gone;
        }

        int parrotsKnowing(int song) {
            int set = 0;
            for (int i = 0; i < parrotCount; i++) {
                if (songs.isKnownBy(parrots[i], song)) {
                    set |= 1 << i;
                }
            }
            return set;
        }

        int tiredParrots() {
            int set = 0;
            for (int i = 0; i < parrotCount; i++) {
                if (isTired(parrots[i])) {
                    set |= 1 << i;
                }
            }
            return set;
        }

        int heardByAll() {
            int sum = 0;
            for (int i = 0; i < parrotCount; i++) {
                sum += parrots[i].heardInAll;
            }
            return sum;
        }

        int linksOfAll() {
            int sum = 0;
            for (int i = 0; i < parrotCount; i++) {
                sum += parrots[i].count;
            }
            return sum;
        }

        int forgottenByAll() {
            int sum = 0;
            for (int i = 0; i < parrotCount; i++) {
                sum += parrots[i].forgotten;
            }
            return sum;
        }
    }

    /** The states before the latest changes, the oldest one first. */
    private static final class History {
        private static final int MOST = 6;

        private final House[] states = new House[MOST];
        private House before = new House();
        int count = 0;

        History() {
            for (int i = 0; i < MOST; i++) {
                states[i] = new House();
            }
        }

        /** Notes the state ahead of a change that may fail yet. */
        void noteBefore(House now) {
            before.copyFrom(now);
        }

        /** Records the noted state, but not if the change failed; returns the change's answer. */
        int keepUnlessError(int answer) {
            if (!isError(answer)) {
                record();
            }
            return answer;
        }

        private void record() {
            if (count == MOST) {
                dropOldest();
            }
            if (count >= 0 && count < MOST) {
                House unused = states[count];
                states[count] = before;
                before = unused;
                count++;
            }
        }

        private void dropOldest() {
            House oldest = states[0];
            for (int i = 1; i < MOST; i++) {
                states[i - 1] = states[i];
            }
            states[MOST - 1] = oldest;
            count = MOST - 1;
        }

        /** Brings the latest state back, and returns how many are left. */
        int takeBack(House now) {
            if (count > 0 && count <= MOST) {
                count--;
                now.copyFrom(states[count]);
            }
            return count;
        }
    }

    /** The text into which orders are put. */
    private static final class Pad {
        static final int MOST = 80;
        private static final int CHUNK = 8, BITS = 8, BYTE = 255;
        private static final int LEAST_CODE = 33, MOST_CODE = 126;

        private final char[] text = new char[MOST];
        int length = 0;

        /** Returns the character at an index, 0 behind the end. */
        char signAt(int index) {
            return index >= 0 && index < length ? text[index] : (char) 0;
        }

        int append(long characters) {
            int size = sizeOf(characters);
            if (size == 0) {
                return BAD_VALUE;
            }
            if (length + size > MOST) {
                return TOO_MANY;
            }
            for (int i = size - 1; i >= 0; i--) {
                text[length] = (char) (characters >>> (BITS * i) & BYTE);
                length++;
            }
            return length;
        }

        /** Tells how many characters a number holds, 0 if they are none that the pad takes. */
        private static int sizeOf(long characters) {
            long rest = characters;
            int size = 0;
            while (size < CHUNK && (rest & BYTE) != 0) {
                long code = rest & BYTE;
                if (code < LEAST_CODE || code > MOST_CODE) {
                    return 0;
                }
                rest >>>= BITS;
                size++;
            }
            return rest == 0 ? size : 0;
        }
    }

    /** Reads its pad order by order. */
    private static final class Reader {
        final Pad pad = new Pad();
        private int at = 0;
        /** Whether an order has to come: at the start, and behind a semicolon. */
        private boolean awaits = true;

        /** The order that was read last: its letter, and what stands behind it. */
        char kind = 0;
        int parrot = 0;
        int song = 0;
        int number = 0;
        final int[] bars = new int[MOST_BARS];
        int barCount = 0;

        void start() {
            at = 0;
            awaits = true;
        }

        /** Returns the index at which the text can't be read on, NONE if it is right. */
        int findFault() {
            start();
            for (int orders = 0; orders < Pad.MOST && awaits; orders++) {
                if (!readNext()) {
                    return at;
                }
            }
            return NONE;
        }

        /** Reads an order and what parts it from the next one; if it can't, it stays where the fault is. */
        boolean readNext() {
            if (!awaits || !readOrder()) {
                return false;
            }
            awaits = take(';');
            return awaits || at >= pad.length;
        }

        private boolean readOrder() {
            kind = pad.signAt(at);
            switch (kind) {
                case 'S':
                    at++;
                    return readBars();
                case 'B':
                case 'N':
                    at++;
                    return true;
                case 'L':
                    at++;
                    return readLesson();
                case 'H':
                    at++;
                    return readParrot();
                case 'P':
                    at++;
                    return readParrot() && take('*') && readNumber();
                default:
                    return false;
            }
        }

        private boolean readBars() {
            barCount = 0;
            while (barCount < MOST_BARS && pad.signAt(at) >= 'a' && pad.signAt(at) <= 'z') {
                bars[barCount] = pad.signAt(at) - 'a';
                barCount++;
                at++;
            }
            return barCount > 0;
        }

        private boolean readLesson() {
            if (!readParrot() || !take('.') || !isDigit()) {
                return false;
            }
            song = takeDigit();
            number = 0;
            return !take('/') || readNumber();
        }

        private boolean readParrot() {
            if (!isDigit()) {
                return false;
            }
            parrot = takeDigit();
            return true;
        }

        /** Reads one digit, or two of which the first one is not 0. */
        private boolean readNumber() {
            if (!isDigit()) {
                return false;
            }
            number = takeDigit();
            if (number > 0 && isDigit()) {
                number = 10 * number + takeDigit();
            }
            return true;
        }

        private boolean isDigit() {
            return pad.signAt(at) >= '0' && pad.signAt(at) <= '9';
        }

        private int takeDigit() {
            int digit = pad.signAt(at) - '0';
            at++;
            return digit;
        }

        private boolean take(char sign) {
            if (pad.signAt(at) != sign) {
                return false;
            }
            at++;
            return true;
        }
    }
}
