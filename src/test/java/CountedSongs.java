/** A ParrotSongs that counts its calls: the document promises nothing about an object after its 512th call. */
final class CountedSongs {
    static final int MOST = 512;

    private final ParrotSongs songs = new ParrotSongs();
    private int calls = 0;

    int calls() {
        return calls;
    }

    private ParrotSongs next() {
        calls++;
        if (calls > MOST) {
            throw new IllegalStateException("a test makes more than 512 calls of one object");
        }
        return songs;
    }

    int set(int setting, int value) {
        return next().set(setting, value);
    }

    int parrot() {
        return next().parrot();
    }

    int lesson(int parrot, int song, int from) {
        return next().lesson(parrot, song, from);
    }

    int hush(int parrot) {
        return next().hush(parrot);
    }

    int practise(int parrot, int bars) {
        return next().practise(parrot, bars);
    }

    int night() {
        return next().night();
    }

    int ofSong(int song, int what) {
        return next().ofSong(song, what);
    }

    int bar(int song, int index) {
        return next().bar(song, index);
    }

    int of(int parrot, int what) {
        return next().of(parrot, what);
    }

    int link(int parrot, int rank, int what) {
        return next().link(parrot, rank, what);
    }

    int sings(int parrot, int bar, int steps) {
        return next().sings(parrot, bar, steps);
    }

    int knows(int parrot, int song) {
        return next().knows(parrot, song);
    }

    int mistake(int parrot, int song, int what) {
        return next().mistake(parrot, song, what);
    }

    int rhymes(int song, int other) {
        return next().rhymes(song, other);
    }

    int follows(int parrot, int song) {
        return next().follows(parrot, song);
    }

    int count(int what) {
        return next().count(what);
    }

    int lessonsFor(int parrot, int song) {
        return next().lessonsFor(parrot, song);
    }

    int bestLesson(int parrot, int what) {
        return next().bestLesson(parrot, what);
    }

    int keeps(int parrot, int song) {
        return next().keeps(parrot, song);
    }

    int put(long characters) {
        return next().put(characters);
    }

    int wipe() {
        return next().wipe();
    }

    int fault() {
        return next().fault();
    }

    int carryOut() {
        return next().carryOut();
    }

    int undo() {
        return next().undo();
    }

    int save(int slot) {
        return next().save(slot);
    }

    int restore(int slot) {
        return next().restore(slot);
    }
}
