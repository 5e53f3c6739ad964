/** What the document's sentences with a limit have in common: each number is tried on an object of its own. */
final class Limits {
    /** A call of the class with one number in question; a lambda in a test. */
    interface Given {
        Object answer(Twinrow rows, int number);
    }

    private static final int[] VALUES = {-99, -98, -1, 0, 1, 98, 99, Due.NOTHING};
    private static final int[] NO_VALUES = {
        -100, -101, 100, 101, -999, -1001, 1000, Integer.MIN_VALUE, Integer.MAX_VALUE};

    private Limits() {
    }

    /**
     * Row 0 is full, row 1 is empty, row 2 has its first four zeros; part 3 has the places 2 to 8 of row 0, part 4
     * is empty, part 5 has the last place of row 0, part 6 is not there.
     */
    static Twinrow sample() {
        Twinrow rows = Due.with(0, 1, 2, Due.NOTHING, 0, -99, 99, 2, 5, -6, 2, 7, 8);
        rows.lay(1, 0);
        rows.part(3, 0, 2, 9);
        rows.part(4, 3, 7, 7);
        rows.part(5, 0, 11, 12);
        return rows;
    }

    // ---- IndexOutOfBoundsException

    static void rows(String call, Given given) {
        outOfBoundsOutside(call + ": no such row", 0, 2, given);
    }

    static void lists(String call, Given given) {
        String sentence = call + ": no such list";
        for (int list : new int[] {-1, 6, 7, Integer.MIN_VALUE, Integer.MAX_VALUE}) {
            outOfBounds(sentence, list, given);
        }
        for (int list : new int[] {0, 3, 5}) {
            let(sentence, list, given);
        }
    }

    /** The places of row 0, or of its twin. */
    static void placesOfAFullOne(String call, Given given) {
        outOfBoundsOutside(call + ": no such place in a full one", 0, 11, given);
    }

    /** The places of part 3: row 0 has more, ahead of it and behind it. */
    static void placesOfAPart(String call, Given given) {
        outOfBoundsOutside(call + ": no such place in a part", 0, 6, given);
    }

    /** The places of row 1, or of part 4. */
    static void placesOfAnEmptyOne(String call, Given given) {
        for (int place : new int[] {-1, 0, 1, Integer.MIN_VALUE, Integer.MAX_VALUE}) {
            outOfBounds(call + ": no such place in an empty one", place, given);
        }
    }

    static void outOfBoundsOutside(String sentence, int least, int greatest, Given given) {
        for (int number : outside(least, greatest)) {
            outOfBounds(sentence, number, given);
        }
        let(sentence, least, given);
        let(sentence, greatest, given);
    }

    private static void outOfBounds(String sentence, int number, Given given) {
        Twinrow rows = sample();
        Due.isOutOfBounds(sentence + ", " + number, rows, () -> given.answer(rows, number));
    }

    // ---- IllegalArgumentException

    static void values(String call, Given given) {
        String sentence = call + ": not -99 to 99 (nothing: -1000)";
        for (int value : NO_VALUES) {
            illegal(sentence, value, given);
        }
        for (int value : VALUES) {
            let(sentence, value, given);
        }
    }

    /** Of a number, other than of a value, NOTHING is not let. */
    static void numbers(String call, Given given) {
        illegalOutside(call + ": number not -99 to 99", -99, 99, given);
        illegal(call + ": number not -99 to 99", Due.NOTHING, given);
    }

    static void illegalOutside(String sentence, int least, int greatest, Given given) {
        for (int number : outside(least, greatest)) {
            illegal(sentence, number, given);
        }
        let(sentence, least, given);
        let(sentence, greatest, given);
    }

    private static void illegal(String sentence, int number, Given given) {
        Twinrow rows = sample();
        Due.isIllegal(sentence + ", " + number, rows, () -> given.answer(rows, number));
    }

    // ---- both

    private static int[] outside(int least, int greatest) {
        return new int[] {least - 1, greatest + 1, Integer.MIN_VALUE, Integer.MAX_VALUE};
    }

    private static void let(String sentence, int number, Given given) {
        Twinrow rows = sample();
        Due.isLet(sentence + ", " + number, () -> given.answer(rows, number));
    }
}
