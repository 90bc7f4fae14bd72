import java.util.LinkedHashMap;
import java.util.List;
import java.util.Map;
import java.util.function.Consumer;

/** The sentences of "Texts", and of the promises 21 to 27: texts, undo, and saved states. */
final class TextEdges extends Edges {
    /** What may stand behind each beginning of a text; 0 for digits, a for letters, S for what begins an order. */
    private static final Map<String, String> NEXT = new LinkedHashMap<>();

    static {
        for (String ahead : new String[] {"", "B;", "N;Sab;", "L0.0/1;"}) {
            NEXT.put(ahead, "S");
            NEXT.put(ahead + "B", ";");
            NEXT.put(ahead + "N", ";");
            NEXT.put(ahead + "S", "a");
            NEXT.put(ahead + "Sa", "a;");
            NEXT.put(ahead + "S" + TWENTY.substring(1), "a;");
            NEXT.put(ahead + "S" + TWENTY, ";");
            NEXT.put(ahead + "H", "0");
            NEXT.put(ahead + "H0", ";");
            NEXT.put(ahead + "H9", ";");
            NEXT.put(ahead + "L", "0");
            NEXT.put(ahead + "L9", ".");
            NEXT.put(ahead + "L0.", "0");
            NEXT.put(ahead + "L0.9", "/;");
            NEXT.put(ahead + "L0.0/", "0");
            NEXT.put(ahead + "L0.0/0", ";");
            NEXT.put(ahead + "L0.0/1", "0;");
            NEXT.put(ahead + "L0.0/9", "0;");
            NEXT.put(ahead + "L0.0/10", ";");
            NEXT.put(ahead + "L0.0/99", ";");
            NEXT.put(ahead + "P", "0");
            NEXT.put(ahead + "P0", "*");
            NEXT.put(ahead + "P0*", "0");
            NEXT.put(ahead + "P0*0", ";");
            NEXT.put(ahead + "P9*1", "0;");
            NEXT.put(ahead + "P0*9", "0;");
            NEXT.put(ahead + "P0*10", ";");
            NEXT.put(ahead + "P0*99", ";");
        }
    }

    private TextEdges() {
    }

    // ---- Texts

    private static CountedSongs written(String text) {
        CountedSongs x = new CountedSongs();
        Check.write(x, text);
        due("length of " + text, x.count(12), text.length());
        return x;
    }

    private static void dueFault(String text, int want) {
        due("fault of " + text, written(text).fault(), want);
    }

    private static boolean mayStand(String next, char sign) {
        boolean digit = sign >= '0' && sign <= '9';
        boolean letter = sign >= 'a' && sign <= 'z';
        boolean order = "SBLHPN".indexOf(sign) >= 0;
        return digit ? next.contains("0") : letter ? next.contains("a") : order ? next.contains("S") : next.indexOf(sign) >= 0;
    }

    /** Tries each sign that can be put behind each beginning. */
    private static void dueNext(String beginnings) {
        NEXT.forEach((ahead, next) -> {
            if (ahead.matches(beginnings)) {
                for (char sign = 33; sign <= 126; sign++) {
                    int fault = written(ahead + sign).fault();
                    boolean stands = fault == NONE || fault == ahead.length() + 1;
                    holds(ahead + sign + " has the fault " + fault,
                            stands == mayStand(next, sign) && (stands || fault == ahead.length()));
                }
            }
        });
    }

    @Sentence(of = "Texts", says = "The pad is a text of at most 80 characters, a row of orders:")
    static void textsOf80Characters() {
        CountedSongs x = written("Sab;" + "N;".repeat(37) + "HH");
        due("full", x.count(12), 80);
        due("fault of the last character", x.fault(), 79);
        CountedSongs y = written("Sab;" + "N;".repeat(37) + "H0");
        due("one more", y.put(';'), TOO_MANY);
        due("right", y.fault(), NONE);
        due("up to the last one", y.carryOut(), 38);
        due("nights", y.count(0), 37);
        CountedSongs z = written("B;" + "N;".repeat(38) + "H0");
        due("all of them", z.carryOut(), 40);
    }

    @Sentence(of = "Texts", says = "```text text = order { \";\" order }")
    static void rowsOfOrders() {
        dueFault("N", NONE);
        dueFault("N;N", NONE);
        dueFault("N" + ";N".repeat(39), NONE);
        dueFault("NN", 1);
        dueFault(";N", 0);
        dueFault("N;;N", 2);
        dueFault("N;", 2);
        dueFault("N;N;", 4);
        dueFault("N,N", 1);
        dueFault("N:N", 1);
    }

    @Sentence(of = "Texts",
            says = "order = \"S\" letter { letter } | \"B\" | \"L\" digit \".\" digit [ \"/\" number ] | \"H\" digit | "
            + "\"P\" digit \"*\" number | \"N\" ```")
    static void eachSignOfOrders() {
        dueNext("([BNS].*;)?([A-Z].?)?");
        dueNext("L0.0/1;([A-Z].?)?");
    }

    @Sentence(of = "Texts", says = "\"S\": a song of these bars comes")
    static void songsOfTexts() {
        CountedSongs x = told("Sazb;Sb");
        due("songs", x.count(1), 2);
        due("bars", x.ofSong(0, 0), 3);
        due("z", x.bar(0, 1), 25);
        due("the other one", x.bar(1, 0), 1);
        due("lessons", x.ofSong(0, 4), 0);
    }

    @Sentence(of = "Texts", says = "(1 to 20 letters, a to z);")
    static void lettersOfSongs() {
        dueFault("S", 1);
        dueFault("S;", 1);
        for (int bars = 1; bars <= 20; bars++) {
            dueFault("S" + "z".repeat(bars), NONE);
        }
        dueFault("S" + "z".repeat(21), 21);
        dueNext(".*S[a-t]*");
    }

    @Sentence(of = "Texts", says = "\"B\": parrot();")
    static void parrotsOfTexts() {
        CountedSongs x = new CountedSongs();
        due("four, and no fifth one", Check.tell(x, "B;B;B;B;B"), 4);
        due("parrots", x.count(2), 4);
        due("TOO_MANY", Check.tell(x, "B;N"), 0);
        due("nights", x.count(0), 0);
    }

    @Sentence(of = "Texts", says = "\"L\": lesson() for a parrot of a song, from a bar on")
    static void lessonsOfTexts() {
        CountedSongs x = told("Sz;S" + TWENTY + ";B;B;B;B");
        tell(x, "L3.1/18;H3;L3.0");
        due("three", x.of(3, 3), 3);
        due("its link", links(x, 3), "st1*");
        due("from the last bar", Check.tell(x, "H3;L3.1/19"), 2);
        due("behind it", Check.tell(x, "L3.1/20"), 0);
        due("far behind it", Check.tell(x, "L3.1/99"), 0);
        due("no parrot 4", Check.tell(x, "L4.0"), 0);
        due("no parrot 9", Check.tell(x, "L9.0"), 0);
        due("no song 2", Check.tell(x, "L0.2"), 0);
        due("no song 9", Check.tell(x, "L0.9"), 0);
        x.set(TIRE, 4);
        due("tired", Check.tell(x, "L3.0"), 0);
    }

    @Sentence(of = "Texts", says = "(0 without);")
    static void lessonsFromTheFirstBarOn() {
        CountedSongs x = told("Sabc;B;L0.0/2;H0;L0.0");
        due("three behind one", x.of(0, 3), 4);
        due("from the first one on", links(x, 0), "bc1* ab1*");
        tell(x, "H0;L0.0/0");
        due("the same", links(x, 0), "bc2* ab2*");
    }

    @Sentence(of = "Texts", says = "\"H\": hush();")
    static void hushesOfTexts() {
        CountedSongs x = told("Sab;B;B;L0.0;L1.0;H1");
        due("the one", x.of(1, 2), NONE);
        due("not the other one", x.of(0, 2), 1);
        due("no parrot 2", Check.tell(x, "H2"), 0);
        due("no parrot 9", Check.tell(x, "H9"), 0);
    }

    @Sentence(of = "Texts", says = "\"P\": practise();")
    static void practiceOfTexts() {
        CountedSongs x = told("Saba;B;B;L1.0");
        x.set(TIRE, 60);
        tell(x, "P1*1");
        due("one", x.of(1, 3), 4);
        due("and by the other one", x.of(0, 3), 1);
        tell(x, "P1*40");
        due("forty", x.of(1, 3), 44);
        due("no 41", Check.tell(x, "P1*41"), 0);
        due("no 99", Check.tell(x, "P1*99"), 0);
        due("no 0", Check.tell(x, "P1*0"), 0);
        due("no parrot 2", Check.tell(x, "P2*1"), 0);
        due("no last bar", Check.tell(x, "H1;P1*1"), 1);
    }

    @Sentence(of = "Texts", says = "\"N\": night().")
    static void nightsOfTexts() {
        CountedSongs x = told("Sab;B;L0.0;N;N");
        due("nights", x.count(0), 2);
        due("forgotten", x.count(6), 1);
        due("the 1000th", Check.tell(TermsEdges.oldHouse(), "N"), 0);
    }

    @Sentence(of = "Texts", says = "A digit is 0 to 9,")
    static void digits() {
        for (char digit = '0'; digit <= '9'; digit++) {
            dueFault("H" + digit, NONE);
            dueFault("L" + digit + "." + digit + "/" + digit, NONE);
            dueFault("P" + digit + "*" + digit, NONE);
        }
        dueFault("H/", 1);
        dueFault("H:", 1);
        dueFault("H10", 2);
        dueFault("L10.0", 2);
        dueFault("L0.10", 4);
        dueFault("P10*1", 2);
        dueFault("L/.0", 1);
        dueFault("L0.:", 3);
    }

    @Sentence(of = "Texts", says = "a number 0 to 99, without leading zeros.")
    static void numbers() {
        for (int number = 0; number <= 99; number++) {
            dueFault("L0.0/" + number, NONE);
            dueFault("P0*" + number, NONE);
            if (number < 10) {
                dueFault("L0.0/0" + number, 6);
                dueFault("P0*0" + number + ";N", 4);
            }
            CountedSongs x = told("S" + TWENTY + ";B");
            due("from " + number, Check.tell(x, "L0.0/" + number), number < 20 ? 1 : 0);
            due("heard from " + number, x.of(0, 3), Math.max(0, 20 - number));
        }
    }

    @Sentence(of = "Texts", says = "The fault is the index of the first character that cannot stand at its place "
            + "when the text is read from left to right")
    static void theFirstFaultCounts() {
        dueFault("x", 0);
        dueFault("xB", 0);
        dueFault("B;x;x", 2);
        dueFault("BxBx", 1);
        dueFault("Sab;L0.0;H0;P0*5;N;X", 19);
        dueFault("L0-0/xx", 2);
        dueFault("N;" + "a".repeat(78), 2);
    }

    @Sentence(of = "Texts", says = "(also of a letter by which a song would have more than 20,")
    static void the21stLetter() {
        dueFault("S" + TWENTY, NONE);
        dueFault("S" + TWENTY + ";", 22);
        dueFault("S" + TWENTY + "u", 21);
        dueFault("S" + TWENTY + "uv;X", 21);
        dueFault("B;S" + TWENTY + ";S" + TWENTY + "a", 45);
        due("not read as a song of 20", written("S" + TWENTY + "u").carryOut(), BAD_TEXT);
    }

    @Sentence(of = "Texts", says = "and of a digit by which a number would be above 99);")
    static void theThirdDigit() {
        dueFault("L0.0/99", NONE);
        for (int digit = 0; digit <= 9; digit++) {
            dueFault("L0.0/10" + digit, 7);
            dueFault("L0.0/99" + digit + ";N", 7);
            dueFault("P0*10" + digit, 5);
            dueFault("P0*99" + digit + "9", 5);
        }
        dueNext(".*(/|\\*)[0-9]*");
    }

    @Sentence(of = "Texts", says = "if there is none and the text ends too early")
    static void textsThatEndTooEarly() {
        for (String text : new String[] {"S", "L", "L0", "L0.", "L0.0/", "H", "P", "P0", "P0*", "B;", "N;S", "Sab;", "L0.0/1;"}) {
            dueFault(text, text.length());
        }
        dueFault("N;".repeat(40), 80);
        dueFault("N;".repeat(39) + "P0", 80);
    }

    @Sentence(of = "Texts", says = "(also if it is empty), it is the length of the text.")
    static void theEmptyText() {
        CountedSongs x = new CountedSongs();
        due("at first", x.fault(), 0);
        due("can't be carried out", x.carryOut(), BAD_TEXT);
        tell(x, "N");
        due("carried out", x.fault(), 0);
        x.put('N');
        x.wipe();
        due("wiped", x.fault(), 0);
    }

    @Sentence(of = "Texts",
            says = "Orders of songs return TOO_MANY if there are 8 songs, otherwise the number of the song.")
    static void theNinthSongEndsTheText() {
        CountedSongs x = new CountedSongs();
        due("eight songs, and no ninth one", Check.tell(x, "Sa;Sb;Sc;Sd;Se;Sf;Sg;Sh;Si;B"), 8);
        due("songs", x.count(1), 8);
        due("nothing behind it", x.count(2), 0);
        due("the eighth one", x.bar(7, 0), 7);
        due("a ninth one", Check.tell(x, "N;Sab;N"), 1);
        due("songs", x.count(1), 8);
        due("nights", x.count(0), 1);
        x.undo();
        x.undo();
        due("all undone", x.count(1), 0);
        due("seven", Check.tell(x, "Sa;Sb;Sc;Sd;Se;Sf;Sg"), 7);
        due("an eighth one", Check.tell(x, "Sh"), 1);
    }

    // ---- 21: put

    @Sentence(of = "Promise 21", says = "Appends characters to the pad.")
    static void charactersComeBehindTheOthers() {
        CountedSongs x = new CountedSongs();
        for (String part : new String[] {"Sa", "bcdefghi", ";", "B;L0.0", "/7"}) {
            x.put(Check.packed(part));
        }
        due("carried out", x.carryOut(), 3);
        due("nine bars", x.ofSong(0, 0), 9);
        due("two heard", links(x, 0), "hi1*");
    }

    @Sentence(of = "Promise 21", says = "They are given as a number: its lowest 8 bits are the last character, "
            + "the next 8 bits the one before, and so on;")
    static void theLowestBitsAreTheLastCharacter() {
        CountedSongs x = new CountedSongs();
        due("Sab", x.put('S' * 65536L + 'a' * 256L + 'b'), 3);
        due("carried out", x.carryOut(), 1);
        due("a", x.bar(0, 0), 0);
        due("b", x.bar(0, 1), 1);
        due("Sabcdefg", x.put(0x5361626364656667L), 8);
        due("carried out", x.carryOut(), 1);
        for (int i = 0; i < 7; i++) {
            due("bar " + i, x.bar(1, i), i);
        }
    }

    @Sentence(of = "Promise 21",
            says = "8 bits that are 0 mean that there are no more characters, and everything above them has to be 0, too.")
    static void noCharactersAboveZeros() {
        for (int size = 1; size <= 8; size++) {
            long right = Check.packed("BBBBBBBB".substring(0, size));
            due(size + " characters", new CountedSongs().put(right), size);
            for (int bit = 8 * size + 8; bit < 64; bit++) {
                due(size + " characters, and the bit " + bit, new CountedSongs().put(right | 1L << bit), BAD_VALUE);
            }
        }
    }

    @Sentence(of = "Promise 21", says = "- `characters`: 1 to 8 characters")
    static void oneToEightCharacters() {
        due("one", new CountedSongs().put('B'), 1);
        due("eight", new CountedSongs().put(Check.packed("B;B;B;B;")), 8);
        due("none", new CountedSongs().put(0), BAD_VALUE);
    }

    @Sentence(of = "Promise 21", says = "Returns the length of the pad then;")
    static void putReturnsTheLength() {
        CountedSongs x = new CountedSongs();
        int length = 0;
        for (int size = 1; size <= 8; size++) {
            length += size;
            due(size + " more", x.put(Check.packed("12345678".substring(0, size))), length);
            due("length", x.count(12), length);
        }
    }

    @Sentence(of = "Promise 21", says = "BAD_VALUE if there is no character,")
    static void putOfNoCharacter() {
        CountedSongs x = new CountedSongs();
        due("0", x.put(0), BAD_VALUE);
        due("length", x.count(12), 0);
        for (int bit = 8; bit < 64; bit++) {
            due("no last character", x.put(1L << bit), BAD_VALUE);
        }
        due("seven characters ahead of none", x.put(Check.packed("BBBBBBB") << 8), BAD_VALUE);
    }

    @Sentence(of = "Promise 21", says = "a code is not 33 to 126,")
    static void codesFrom33To126() {
        for (int place = 0; place < 8; place++) {
            for (long code = 1; code <= 255; code++) {
                long characters = Check.packed("BBBBBBBB") & ~(255L << 8 * place) | code << 8 * place;
                due("code " + code + " at " + place, new CountedSongs().put(characters), code >= 33 && code <= 126 ? 8 : BAD_VALUE);
            }
        }
        for (int code = 0; code <= 255; code++) {
            due("code " + code, new CountedSongs().put(code), code >= 33 && code <= 126 ? 1 : BAD_VALUE);
        }
    }

    @Sentence(of = "Promise 21", says = "or a bit above 8 bits that are 0 is not 0;")
    static void aBitAboveZeros() {
        due("the lowest one", new CountedSongs().put(0x1_0042L), BAD_VALUE);
        due("the highest one", new CountedSongs().put(Long.MIN_VALUE | 0x42), BAD_VALUE);
        due("a character", new CountedSongs().put(0x42_0042L), BAD_VALUE);
        due("a character behind none", new CountedSongs().put(0x42_0000_0042L), BAD_VALUE);
        due("a character ahead of seven", new CountedSongs().put(0x4200_4242_4242_4242L), BAD_VALUE);
        due("no bit", new CountedSongs().put(0x42_4242_4242_4242L), 7);
    }

    @Sentence(of = "Promise 21", says = "TOO_MANY if the pad would be longer than 80.")
    static void the81stCharacter() {
        for (int size = 1; size <= 8; size++) {
            String more = "BBBBBBBB".substring(0, size);
            CountedSongs x = written("N".repeat(80 - size));
            due("80", x.put(Check.packed(more)), 80);
            due("one more", x.put('B'), TOO_MANY);
            CountedSongs y = written("N".repeat(81 - size));
            due("81", y.put(Check.packed(more)), TOO_MANY);
            due("not one of them is put", y.count(12), 81 - size);
        }
    }

    @Sentence(of = "Promise 21",
            says = "BAD_VALUE if there is no character, a code is not 33 to 126, or a bit above 8 bits that are 0 is not 0; "
            + "TOO_MANY if the pad would be longer than 80.")
    static void errorsOfPutInTheirOrder() {
        CountedSongs x = written("N".repeat(80));
        due("none", x.put(0), BAD_VALUE);
        due("code", x.put(32), BAD_VALUE);
        due("code", x.put(Check.packed("BBBBBBB\u007f")), BAD_VALUE);
        due("bit", x.put(0x42_0042L), BAD_VALUE);
        due("length", x.put('B'), TOO_MANY);
    }

    // ---- 22: wipe

    @Sentence(of = "Promise 22", says = "Empties the pad, and returns the length that it had.")
    static void wipeReturnsTheLength() {
        for (int length : new int[] {0, 1, 8, 79, 80}) {
            CountedSongs x = written("N".repeat(length));
            due("wipe", x.wipe(), length);
            due("empty", x.count(12), 0);
            due("wipe again", x.wipe(), 0);
            due("from the start", x.put('B'), 1);
            due("nothing of it is left", x.carryOut(), 1);
            due("parrots", x.count(2), 1);
        }
    }

    // ---- 23: fault

    @Sentence(of = "Promise 23", says = "Returns the fault of the pad,")
    static void faultOfThePad() {
        CountedSongs x = written("N;X");
        due("fault", x.fault(), 2);
        due("the same", x.fault(), 2);
        due("a pad that is longer", x.put('B'), 4);
        due("the same", x.fault(), 2);
        due("the pad stays", x.wipe(), 4);
    }

    @Sentence(of = "Promise 23", says = "NONE if there is none.")
    static void noFault() {
        CountedSongs x = new CountedSongs();
        String text = "Sab;B;L0.0/1;H0;P0*1;N";
        for (int i = 0; i < text.length(); i++) {
            x.put(text.charAt(i));
            boolean right = List.of("Sa", "Sab", "Sab;B", "Sab;B;L0.0", "Sab;B;L0.0/1", "Sab;B;L0.0/1;H0", "Sab;B;L0.0/1;H0;P0*1",
                    text).contains(text.substring(0, i + 1));
            due(text.substring(0, i + 1), x.fault(), right ? NONE : i + 1);
        }
        due("a fault of orders is none of the text", written("H9;L9.9/99;P9*0").fault(), NONE);
    }

    // ---- 24: carryOut

    @Sentence(of = "Promise 24", says = "Carries the orders of the pad out, one after the other,")
    static void ordersOneAfterTheOther() {
        CountedSongs x = told("B;Sab;L0.0;N;Sc;L0.1;B;H0;L1.0/1;P1*1");
        due("parrots", x.count(2), 2);
        due("songs", x.count(1), 2);
        due("nights", x.count(0), 1);
        due("links", links(x, 0), "ab1");
        due("today", x.of(0, 3), 1);
        due("today", x.of(1, 3), 1);
        due("forty orders", Check.tell(x, "N" + ";N".repeat(39)), 40);
        due("nights", x.count(0), 41);
    }

    @Sentence(of = "Promise 24", says = "up to the first one that returns an error,")
    static void theFirstErrorEndsTheText() {
        String[] errors = {"H2", "L0.0", "L1.9", "L1.0/2", "P0*1", "P1*0", "P1*41", "P2*1"};
        for (String error : errors) {
            for (int ahead = 0; ahead <= 3; ahead++) {
                CountedSongs x = told("Sab;B;B;L0.0");
                x.set(TIRE, 2);
                due(ahead + " ahead of " + error, Check.tell(x, "Sx;".repeat(ahead) + error + ";Sy;Sz"), ahead);
                due("songs", x.count(1), 1 + ahead);
                due("pad", x.count(12), 0);
            }
        }
        CountedSongs x = told("B");
        due("NONE is no error", Check.tell(x, "H0;H0;B"), 3);
        due("0 is no error", Check.tell(x, "Sa;L0.0;P0*1;N"), 4);
    }

    @Sentence(of = "Promise 24", says = "and empties the pad.")
    static void carryOutEmptiesThePad() {
        CountedSongs x = new CountedSongs();
        Check.write(x, "B;B");
        due("both", x.carryOut(), 2);
        due("pad", x.count(12), 0);
        due("nothing left", x.carryOut(), BAD_TEXT);
        due("one", Check.tell(x, "B;H9;B"), 1);
        due("pad behind an error", x.count(12), 0);
        due("none", Check.tell(x, "H9;B"), 0);
        due("pad behind an error at once", x.count(12), 0);
        due("parrots", x.count(2), 3);
    }

    @Sentence(of = "Promise 24", says = "This is a change (one, with all of them;")
    static void aTextIsOneChange() {
        CountedSongs x = told("Sab;B;B;L0.0;N;H0;L1.0");
        due("recorded", x.count(13), 1);
        due("undo", x.undo(), 0);
        due("all of them", seen(x), seen(new CountedSongs()));
    }

    @Sentence(of = "Promise 24", says = "also if none is carried out).")
    static void aTextOfWhichNoneIsCarriedOutIsAChange() {
        CountedSongs x = told("B");
        due("none", Check.tell(x, "H9;B"), 0);
        due("recorded", x.count(13), 2);
        due("undo", x.undo(), 1);
        due("parrots", x.count(2), 1);
        due("undo", x.undo(), 0);
        due("parrots", x.count(2), 0);
    }

    @Sentence(of = "Promise 24", says = "Returns how many orders were carried out;")
    static void carryOutReturnsTheOrders() {
        for (int orders = 1; orders <= 40; orders++) {
            due("" + orders, Check.tell(new CountedSongs(), "N" + ";N".repeat(orders - 1)), orders);
        }
        due("none", Check.tell(new CountedSongs(), "H0"), 0);
        due("all but the last one", Check.tell(new CountedSongs(), "N;".repeat(39) + "H0"), 39);
    }

    @Sentence(of = "Promise 24", says = "BAD_TEXT if the pad has a fault (then it stays).")
    static void aPadWithAFaultStays() {
        CountedSongs x = new CountedSongs();
        Check.write(x, "B;B;X");
        due("a fault in the last order", x.carryOut(), BAD_TEXT);
        due("nothing is carried out", x.count(2), 0);
        due("nothing is recorded", x.count(13), 0);
        due("the pad stays", x.count(12), 5);
        due("fault", x.fault(), 4);
        x.wipe();
        Check.write(x, "B;B;");
        due("ends too early", x.carryOut(), BAD_TEXT);
        x.put('B');
        due("goes on", x.carryOut(), 3);
        due("empty", x.carryOut(), BAD_TEXT);
    }

    // ---- 25: undo

    private static final List<Consumer<CountedSongs>> CHANGES = List.of(x -> x.set(GAIN, 3), x -> x.parrot(), x -> x.lesson(0, 1, 0),
            x -> x.hush(0), x -> x.practise(1, 9), x -> x.night(), x -> Check.tell(x, "Sxyz;L0.2;N;B;L1.0;P1*3"), x -> x.restore(0),
            x -> x.set(SPAN, 4), x -> x.lesson(0, 0, 1), x -> Check.tell(x, "N;L0.0;H1"), x -> x.restore(1));

    private static CountedSongs scene() {
        CountedSongs x = told("Szyzy;Sabcb;B;B;L1.1");
        x.save(0);
        tell(x, "L0.0;N;L1.0");
        x.save(1);
        tell(x, "L0.1/1;L1.0");
        return x;
    }

    /** What is seen behind some of the changes, in a scene in which nothing is undone. */
    private static String behind(int first, int changes) {
        CountedSongs x = scene();
        for (int i = 0; i < changes; i++) {
            CHANGES.get((first + i) % CHANGES.size()).accept(x);
        }
        return seen(x);
    }

    @Sentence(of = "Promise 25",
            says = "Undoes the latest change: everything except the pad, the slots and the history is as it was before it.")
    static void eachChangeIsUndone() {
        for (int change = 0; change < CHANGES.size(); change++) {
            CountedSongs x = scene();
            CHANGES.get(change).accept(x);
            holds("change " + change + " is seen", !behind(change, 1).equals(behind(change, 0)));
            due("change " + change, x.undo(), 3);
            due("all behind the undo of change " + change, seen(x), behind(change, 0));
        }
    }

    @Sentence(of = "Promise 25", says = "Undoes the latest change:")
    static void changesAreUndoneFromTheLatestOn() {
        for (int first = 0; first < CHANGES.size(); first++) {
            for (int undone = 1; undone <= 6; undone++) {
                CountedSongs x = scene();
                for (int i = 0; i < 6; i++) {
                    CHANGES.get((first + i) % CHANGES.size()).accept(x);
                }
                for (int i = 1; i <= undone; i++) {
                    due("undo", x.undo(), 6 - i);
                }
                due(undone + " undone from change " + first + " on", seen(x), behind(first, 6 - undone));
            }
        }
    }

    @Sentence(of = "Promise 25", says = "everything except the pad,")
    static void undoLeavesThePad() {
        CountedSongs x = told("B");
        Check.write(x, "N;N");
        x.undo();
        due("pad", x.count(12), 3);
        due("carried out", x.carryOut(), 2);
        x.undo();
        due("what was carried out does not come back", x.count(12), 0);
        Check.write(x, "X");
        x.night();
        x.undo();
        due("a fault stays, too", x.fault(), 0);
        due("pad", x.wipe(), 1);
    }

    @Sentence(of = "Promise 25", says = "the slots")
    static void undoLeavesTheSlots() {
        CountedSongs x = told("Sab", "Scd");
        x.save(0);
        x.undo();
        x.save(1);
        x.undo();
        due("no song", x.count(1), 0);
        due("saved with two", x.restore(0), 2);
        due("saved with one", x.restore(1), 1);
    }

    @Sentence(of = "Promise 25", says = "is as it was before it.")
    static void otherSongsOfTheSameNumberAreUndone() {
        CountedSongs x = told("Sabc;Sz");
        x.save(0);
        x.undo();
        tell(x, "Sde;Sfgh;B;L0.1");
        String before = seen(x);
        due("songs of the slot", x.restore(0), 2);
        due("undo", x.undo(), 1);
        due("d e, and f g h", seen(x), before);
        due("first bar", x.bar(0, 0), 3);
        due("two bars", x.ofSong(0, 0), 2);
        due("one lesson", x.ofSong(1, 4), 1);
    }

    @Sentence(of = "Promise 25", says = "and the history is as it was before it.")
    static void whatIsUndoneIsGone() {
        CountedSongs x = told("B", "B", "B");
        due("undo", x.undo(), 2);
        due("undo is not undone", x.undo(), 1);
        due("parrots", x.count(2), 1);
        tell(x, "N");
        due("one more", x.count(13), 2);
        due("undo", x.undo(), 1);
        due("undo", x.undo(), 0);
        due("parrots", x.count(2), 0);
    }

    @Sentence(of = "Promise 25", says = "A history of at most 6 states is kept:")
    static void sixStatesAreKept() {
        for (int nights = 0; nights <= 13; nights++) {
            CountedSongs x = new CountedSongs();
            for (int i = 0; i < nights; i++) {
                x.night();
            }
            int kept = Math.min(6, nights);
            due("kept of " + nights, x.count(13), kept);
            for (int i = kept - 1; i >= 0; i--) {
                due("undo", x.undo(), i);
            }
            due("no more", x.undo(), NOT_POSSIBLE);
            due("nights of " + nights, x.count(0), nights - kept);
        }
    }

    @Sentence(of = "Promise 25", says = "each method that is a change,")
    static void eachChangeIsRecorded() {
        for (int change = 0; change < CHANGES.size(); change++) {
            CountedSongs x = scene();
            CHANGES.get(change).accept(x);
            due("change " + change, x.count(13), 4);
        }
        CountedSongs x = scene();
        x.save(0);
        x.put('B');
        x.wipe();
        x.fault();
        x.lessonsFor(0, 0);
        x.bestLesson(0, 0);
        x.keeps(0, 0);
        due("nothing else", x.count(13), 3);
    }

    @Sentence(of = "Promise 25", says = "and returns no error, records the state before it")
    static void errorsAreNotRecorded() {
        CountedSongs x = told("Sab;B;B;B;B;L0.0");
        x.set(TIRE, 2);
        due("set", x.set(SPAN, 3), BAD_VALUE);
        due("parrot", x.parrot(), TOO_MANY);
        due("lesson", x.lesson(0, 0, 0), NOT_POSSIBLE);
        due("lesson", x.lesson(4, 0, 0), NO_SUCH);
        due("hush", x.hush(4), NO_SUCH);
        due("practise", x.practise(1, 1), NOT_POSSIBLE);
        due("carryOut", x.carryOut(), BAD_TEXT);
        due("restore", x.restore(0), NOT_POSSIBLE);
        due("restore", x.restore(2), BAD_VALUE);
        due("recorded", x.count(13), 2);
        due("the latest change", x.undo(), 1);
        due("is set", x.count(11), 20);
        CountedSongs old = TermsEdges.oldHouse();
        due("night", old.night(), NOT_POSSIBLE);
        old.undo();
        due("the latest change is a text", old.count(0), 960);
    }

    @Sentence(of = "Promise 25", says = "(also if nothing is different then);")
    static void changesWithoutADifferenceAreRecorded() {
        CountedSongs x = told("Sab;B;L0.0");
        x.save(0);
        String before = seen(x);
        x.set(SPAN, 24);
        due("set", x.count(13), 2);
        due("stops at once", x.practise(0, 1), 0);
        due("practise", x.count(13), 3);
        x.restore(0);
        due("restore", x.count(13), 4);
        Check.tell(x, "H9");
        due("carryOut", x.count(13), 5);
        due("nothing is different", seen(x), before);
        tell(x, "H0");
        due("hush", x.count(13), 6);
        CountedSongs y = told("B");
        due("no last bar", y.hush(0), NONE);
        due("hush", y.count(13), 2);
    }

    @Sentence(of = "Promise 25", says = "when one more is recorded, the oldest one is dropped.")
    static void theOldestStateIsDropped() {
        CountedSongs x = told("Sa;Sb;Sc", "B", "B", "B", "B", "N");
        due("six", x.count(13), 6);
        tell(x, "N");
        due("six", x.count(13), 6);
        for (int i = 5; i >= 0; i--) {
            due("undo", x.undo(), i);
        }
        due("the first change can't be undone any more", x.undo(), NOT_POSSIBLE);
        due("songs", x.count(1), 3);
        due("parrots", x.count(2), 0);
    }

    @Sentence(of = "Promise 25", says = "An order of a text records nothing by itself.")
    static void ordersAreNotRecorded() {
        CountedSongs x = told("B", "Sab");
        tell(x, "Sa;B;L0.0;H0;L0.0;P0*1;N;B;N;N");
        due("one more", x.count(13), 3);
        due("undo", x.undo(), 2);
        due("songs", x.count(1), 1);
        due("undo", x.undo(), 1);
        due("undo", x.undo(), 0);
        due("parrots", x.count(2), 0);
    }

    @Sentence(of = "Promise 25", says = "Returns how many changes can be undone then; NOT_POSSIBLE if there is none.")
    static void undoDownToNone() {
        CountedSongs x = new CountedSongs();
        due("none", x.undo(), NOT_POSSIBLE);
        tell(x, "N");
        due("one", x.undo(), 0);
        due("none", x.undo(), NOT_POSSIBLE);
        due("nights", x.count(0), 0);
        due("changes", x.count(13), 0);
    }

    // ---- 26: save

    @Sentence(of = "Promise 26", says = "Saves everything except the pad, the history and the slots in a slot,")
    static void saveKeepsAllButThePadAndTheHistory() {
        for (int change = 0; change < CHANGES.size(); change++) {
            for (int slot = 0; slot <= 1; slot++) {
                CountedSongs x = scene();
                CHANGES.get(change).accept(x);
                x.save(slot);
                tell(x, "Sqq;N;L0.0;H1;N");
                x.set(FADE, 3);
                Check.write(x, "N;N;B");
                int changes = x.count(13);
                x.restore(slot);
                due("pad", x.count(12), 5);
                due("history", x.count(13), Math.min(6, changes + 1));
                due("all behind change " + change, seen(x), behind(change, 1));
            }
        }
    }

    @Sentence(of = "Promise 26", says = "and overwrites what was saved there.")
    static void saveOverwritesItsSlotAlone() {
        CountedSongs x = new CountedSongs();
        due("empty", x.save(0), 0);
        tell(x, "Sa");
        due("one song", x.save(1), 1);
        tell(x, "Sb");
        due("two songs", x.save(0), 2);
        tell(x, "Sc");
        due("overwritten", x.restore(0), 2);
        due("the other one", x.restore(1), 1);
    }

    @Sentence(of = "Promise 26", says = "- `slot`: 0 or 1")
    static void slots0And1() {
        due("0", new CountedSongs().save(0), 0);
        due("1", new CountedSongs().save(1), 0);
        due("-1", new CountedSongs().save(-1), BAD_VALUE);
        due("2", new CountedSongs().save(2), BAD_VALUE);
    }

    @Sentence(of = "Promise 26", says = "Returns how many songs there are;")
    static void saveReturnsTheSongs() {
        for (int songs = 1; songs <= 8; songs++) {
            due("" + songs, told("B" + ";Sab".repeat(songs)).save(1), songs);
        }
        due("none", told("B").save(0), 0);
    }

    @Sentence(of = "Promise 26", says = "BAD_VALUE if there is no such slot.")
    static void saveInNoSlot() {
        dueRange(CountedSongs::new, 0, 1, (x, slot) -> x.save(slot));
        CountedSongs x = told("Sa");
        x.save(2);
        x.save(-1);
        due("nothing saved", x.restore(0), NOT_POSSIBLE);
        due("nothing saved", x.restore(1), NOT_POSSIBLE);
    }

    // ---- 27: restore

    @Sentence(of = "Promise 27", says = "Restores what was saved last in a slot, which keeps it.")
    static void aSlotKeepsWhatIsRestored() {
        CountedSongs x = told("Sabc;B;L0.0");
        x.save(1);
        String saved = seen(x);
        for (int times = 0; times < 3; times++) {
            tell(x, "N;L0.0;Sx;B;N");
            x.set(SPAN, 4);
            due("restore", x.restore(1), 1);
            due("all", seen(x), saved);
        }
        x.undo();
        due("undone: what was there", x.count(8), 4);
        due("restore", x.restore(1), 1);
        due("all", seen(x), saved);
    }

    @Sentence(of = "Promise 27", says = "Restores what was saved last in a slot,")
    static void otherSongsOfTheSameNumberAreReplaced() {
        CountedSongs x = told("Sabc;Sz");
        x.save(0);
        String saved = seen(x);
        x.undo();
        tell(x, "Sde;Sfgh;Sij;B;L0.1");
        due("songs", x.restore(0), 2);
        due("a b c, and z", seen(x), saved);
        due("first bar", x.bar(0, 0), 0);
        due("three bars", x.ofSong(0, 0), 3);
        due("no lesson", x.ofSong(1, 4), 0);
    }

    @Sentence(of = "Promise 27", says = "This is a change.")
    static void restoreIsAChange() {
        CountedSongs x = told("Sab");
        x.save(0);
        tell(x, "Scd;B;L0.1");
        String before = seen(x);
        due("restore", x.restore(0), 1);
        due("recorded", x.count(13), 3);
        due("refused", x.restore(1), NOT_POSSIBLE);
        due("an error is not", x.count(13), 3);
        due("undo", x.undo(), 2);
        due("all", seen(x), before);
    }

    @Sentence(of = "Promise 27", says = "- `slot`: 0 or 1")
    static void slotsOfRestore0And1() {
        CountedSongs x = told("Sa");
        x.save(0);
        tell(x, "Sb");
        x.save(1);
        due("0", x.restore(0), 1);
        due("1", x.restore(1), 2);
        due("-1", x.restore(-1), BAD_VALUE);
        due("2", x.restore(2), BAD_VALUE);
    }

    @Sentence(of = "Promise 27", says = "Returns how many songs there are then;")
    static void restoreReturnsTheSongs() {
        for (int songs = 0; songs <= 8; songs++) {
            CountedSongs x = told("B" + ";Sab".repeat(songs));
            x.save(0);
            x.undo();
            due("" + songs, x.restore(0), songs);
        }
    }

    @Sentence(of = "Promise 27", says = "BAD_VALUE if there is no such slot;")
    static void restoreOfNoSlot() {
        dueRange(CountedSongs::new, 0, 1, (x, slot) -> x.restore(slot));
    }

    @Sentence(of = "Promise 27", says = "NOT_POSSIBLE if nothing was saved in it.")
    static void nothingWasSaved() {
        CountedSongs x = told("Sa");
        due("slot 0", x.restore(0), NOT_POSSIBLE);
        due("slot 1", x.restore(1), NOT_POSSIBLE);
        x.save(0);
        due("slot 0", x.restore(0), 1);
        due("slot 1 yet", x.restore(1), NOT_POSSIBLE);
        CountedSongs y = new CountedSongs();
        y.save(1);
        due("slot 0 yet", y.restore(0), NOT_POSSIBLE);
        due("an empty house is something", y.restore(1), 0);
    }
}
