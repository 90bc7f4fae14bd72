/** Counts and prints the answers that are not due. */
final class Check {
    private static int wrong = 0;
    private static int asked = 0;

    private Check() {
    }

    static void due(String call, long got, long want) {
        asked++;
        if (got != want) {
            wrong++;
            System.out.println(call + " answered " + got + ", due is " + want);
        }
    }

    static void due(String call, String got, String want) {
        asked++;
        if (!got.equals(want)) {
            wrong++;
            System.out.println(call + " answered " + got + ", due is " + want);
        }
    }

    static int asked() {
        return asked;
    }

    static void holds(String claim, boolean holds) {
        due(claim, holds ? 1 : 0, 1);
    }

    /** Prints the sum, and ends the test with the exit code 1 if an answer was wrong. */
    static void end() {
        System.out.println(wrong == 0 ? asked + " answers are as due" : wrong + " of " + asked + " answers are not as due");
        if (wrong != 0) {
            System.exit(1);
        }
    }

    /** Packs up to 8 characters into the number that put() takes. */
    static long packed(String characters) {
        long number = 0;
        for (int i = 0; i < characters.length(); i++) {
            number = number << 8 | characters.charAt(i) & 255;
        }
        return number;
    }

    /** Puts a text on the pad, 8 characters at a time. */
    static void write(CountedSongs x, String text) {
        for (int i = 0; i < text.length(); i += 8) {
            x.put(packed(text.substring(i, Math.min(text.length(), i + 8))));
        }
    }

    /** Puts a text on the pad and carries it out. */
    static int tell(CountedSongs x, String text) {
        write(x, text);
        return x.carryOut();
    }
}
