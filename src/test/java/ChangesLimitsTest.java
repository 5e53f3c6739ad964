/** The limits that promises 23 to 30 name, a test for each. */
public final class ChangesLimitsTest {
    private static final int[] EMPTY_LISTS = {1, 4};

    public static void main(String[] args) {
        walkSet();
        walkSetFromTheEnds();
        walkSetStaysInItsPart();
        replaceAll();
        replaceAllStaysInItsPart();
        replaceOld();
        replaceOldFromAndToNothing();
        replaceOldStaysInItsPart();
        fill();
        fillStaysInItsPart();
        sort();
        sortPutsNothingFirst();
        sortFewOrLikeOnes();
        reverse();
        reverseFewOnes();
        reverseStaysInItsPart();
        rotate();
        rotateByTheLength();
        rotateByTheMost();
        rotateOneOfAPart();
        swap();
        swapUnlikeOnes();
        nothingChangesInAnEmptyOne();
        Due.end();
    }

    // ---- walkSet, replaceAll

    private static void walkSet() {
        Limits.lists("walkSet", (rows, list) -> rows.walkSet(list, 0, 0, 1, false));
        Limits.illegalOutside("walkSet: from not 0 to the length", 0, 12, (rows, from) -> rows.walkSet(0, from, 0, 1, false));
        Limits.illegalOutside("walkSet back: from not 0 to the length", 0, 12, (rows, from) -> rows.walkSet(0, from, 0, 1, true));
        Limits.illegalOutside("walkSet in a part: from", 0, 7, (rows, from) -> rows.walkSet(3, from, 0, 1, true));
        Limits.illegalOutside("walkSet in an empty one: from", 0, 0, (rows, from) -> rows.walkSet(1, from, 0, 1, false));
        Limits.illegalOutside("walkSet: rule not 0 to 3", 0, 3, (rows, rule) -> rows.walkSet(0, 0, rule, 1, false));
        Limits.illegalOutside("walkSet at the end: rule", 0, 3, (rows, rule) -> rows.walkSet(0, 12, rule, 1, false));
        Limits.numbers("walkSet", (rows, number) -> rows.walkSet(0, 0, 0, number, false));
        Limits.numbers("walkSet in an empty one", (rows, number) -> rows.walkSet(4, 0, 3, number, true));
    }

    private static void walkSetFromTheEnds() {
        Twinrow rows = Limits.sample();
        Due.is("walkSet from the end", 0, () -> rows.walkSet(0, 12, 2, 0, false));
        Due.is("walkSet back from the beginning", 0, () -> rows.walkSet(0, 0, 2, 0, true));
        Due.is("walkSet: none is set", "1 2 - 0 -99 99 2 5 -6 2 7 8", () -> rows.text(0));
        Due.is("walkSet from the last", 1, () -> rows.walkSet(0, 11, 0, 1, false));
        Due.is("walkSet back from the second", 1, () -> rows.walkSet(0, 1, 0, 1, true));
        Due.is("walkSet: both ends are set", "2 2 - 0 -99 99 2 5 -6 2 7 9", () -> rows.text(0));
        Due.is("walkSet all", 12, () -> rows.walkSet(0, 0, 0, 1, false));
        Due.is("walkSet all back", 12, () -> rows.walkSet(0, 12, 0, 1, true));
        Due.is("walkSet: all are set twice", "4 4 2 2 -97 99 4 7 -4 4 9 11", () -> rows.text(0));
    }

    private static void walkSetStaysInItsPart() {
        Twinrow rows = Limits.sample();
        Due.is("walkSet all of a part", 7, () -> rows.walkSet(3, 0, 2, 0, false));
        Due.is("walkSet all of a part: the row", "1 2 0 0 0 0 0 0 0 2 7 8", () -> rows.text(0));
        Due.is("walkSet all of a part back", 7, () -> rows.walkSet(3, 7, 0, -3, true));
        Due.is("walkSet all of a part back: the row", "1 2 -3 -3 -3 -3 -3 -3 -3 2 7 8", () -> rows.text(0));
    }

    private static void replaceAll() {
        Limits.lists("replaceAll", (rows, list) -> rows.replaceAll(list, 0, 1));
        Limits.illegalOutside("replaceAll: rule not 0 to 3", 0, 3, (rows, rule) -> rows.replaceAll(0, rule, 1));
        Limits.illegalOutside("replaceAll in an empty one: rule", 0, 3, (rows, rule) -> rows.replaceAll(1, rule, 1));
        Limits.numbers("replaceAll", (rows, number) -> rows.replaceAll(0, 3, number));
        Limits.numbers("replaceAll in an empty one", (rows, number) -> rows.replaceAll(4, 0, number));
    }

    private static void replaceAllStaysInItsPart() {
        Twinrow rows = Limits.sample();
        Due.is("replaceAll of a part", 7, () -> rows.replaceAll(3, 0, 99));
        Due.is("replaceAll of a part: the row", "1 2 99 99 0 99 99 99 93 2 7 8", () -> rows.text(0));
        Due.is("replaceAll of one", 1, () -> rows.replaceAll(5, 0, 91));
        Due.is("replaceAll of a full one", 12, () -> rows.replaceAll(0, 3, 99));
        Due.is("replaceAll of a full one: the row", "1 2 - - 0 - - - 93 2 7 -", () -> rows.text(0));
    }

    // ---- replaceOld, fill

    private static void replaceOld() {
        Limits.lists("replaceOld", (rows, list) -> rows.replaceOld(list, 1, 2));
        Limits.values("replaceOld: the old one", (rows, old) -> rows.replaceOld(0, old, 1));
        Limits.values("replaceOld: the other one", (rows, value) -> rows.replaceOld(0, 1, value));
        Limits.values("replaceOld, without: the other one", (rows, value) -> rows.replaceOld(0, 55, value));
        Limits.values("replaceOld in an empty one: the old one", (rows, old) -> rows.replaceOld(1, old, 1));
    }

    private static void replaceOldFromAndToNothing() {
        Twinrow rows = Limits.sample();
        Due.is("nothing by a value", 1, () -> rows.replaceOld(0, Due.NOTHING, 7));
        Due.is("nothing, without", 0, () -> rows.replaceOld(0, Due.NOTHING, 7));
        Due.is("a value by nothing", 1, () -> rows.replaceOld(0, 7, Due.NOTHING));
        Due.is("a value, without", 0, () -> rows.replaceOld(0, 7, Due.NOTHING));
        Due.is("the row", "1 2 - 0 -99 99 2 5 -6 2 - 8", () -> rows.text(0));
    }

    private static void replaceOldStaysInItsPart() {
        Twinrow rows = Limits.sample();
        Due.is("what stands around the part, too", 1, () -> rows.replaceOld(3, 2, 44));
        Due.is("what stands around the part alone", 0, () -> rows.replaceOld(3, 2, 44));
        Due.is("the part's first", 1, () -> rows.replaceOld(3, Due.NOTHING, 33));
        Due.is("the part's last", 1, () -> rows.replaceOld(3, -6, 66));
        Due.is("the row", "1 2 33 0 -99 99 44 5 66 2 7 8", () -> rows.text(0));
    }

    private static void fill() {
        Limits.lists("fill", (rows, list) -> rows.fill(list, 5));
        Limits.values("fill", (rows, value) -> rows.fill(0, value));
        Limits.values("fill an empty one", (rows, value) -> rows.fill(4, value));
        Twinrow rows = Limits.sample();
        Due.is("fill a full one", 12, () -> rows.fill(0, 99));
        Due.is("fill a full one: the row", "99 99 99 99 99 99 99 99 99 99 99 99", () -> rows.text(0));
    }

    private static void fillStaysInItsPart() {
        Twinrow rows = Limits.sample();
        Due.is("fill a part", 7, () -> rows.fill(3, Due.NOTHING));
        Due.is("fill one", 1, () -> rows.fill(5, -99));
        Due.is("the row", "1 2 - - - - - - - 2 7 -99", () -> rows.text(0));
    }

    // ---- sort

    private static void sort() {
        Limits.rows("sort", (rows, row) -> rows.sort(row, false));
        Limits.rows("sort falling", (rows, row) -> rows.sort(row, true));
    }

    private static void sortPutsNothingFirst() {
        Twinrow rows = Limits.sample();
        Due.is("sort a full one", 12, () -> rows.sort(0, false));
        Due.is("sort a full one: the row", "- -99 -6 0 1 2 2 2 5 7 8 99", () -> rows.text(0));
        Due.is("sort it falling", 12, () -> rows.sort(0, true));
        Due.is("sort it falling: the row", "99 8 7 5 2 2 2 1 0 -6 -99 -", () -> rows.text(0));
        Due.lay(rows, 1, Due.NOTHING, -99, Due.NOTHING);
        Due.is("sort nothings", 3, () -> rows.sort(1, false));
        Due.is("sort nothings: first", "- - -99", () -> rows.text(1));
        Due.is("sort nothings falling", 3, () -> rows.sort(1, true));
        Due.is("sort nothings falling: last", "-99 - -", () -> rows.text(1));
    }

    private static void sortFewOrLikeOnes() {
        Twinrow rows = Limits.sample();
        Due.is("sort an empty one", 0, () -> rows.sort(1, false));
        Due.is("sort an empty one falling", 0, () -> rows.sort(1, true));
        Due.is("sort like ones", 4, () -> rows.sort(2, true));
        Due.is("sort like ones: the row", "0 0 0 0", () -> rows.text(2));
        Due.lay(rows, 1, Due.NOTHING);
        Due.is("sort one", 1, () -> rows.sort(1, false));
        Due.is("sort one: the row", "-", () -> rows.text(1));
        Due.lay(rows, 1, 99, -99);
        Due.is("sort two", 2, () -> rows.sort(1, false));
        Due.is("sort two: the row", "-99 99", () -> rows.text(1));
        Due.is("sort: the other row stays", "1 2 - 0 -99 99 2 5 -6 2 7 8", () -> rows.text(0));
    }

    // ---- reverse

    private static void reverse() {
        Limits.lists("reverse", Twinrow::reverse);
        Twinrow rows = Limits.sample();
        Due.is("reverse a full one", 12, () -> rows.reverse(0));
        Due.is("reverse a full one: the row", "8 7 2 -6 5 2 99 -99 0 - 2 1", () -> rows.text(0));
    }

    private static void reverseFewOnes() {
        Twinrow rows = Limits.sample();
        Due.is("reverse one", 1, () -> rows.reverse(5));
        Due.is("reverse one: the row", "1 2 - 0 -99 99 2 5 -6 2 7 8", () -> rows.text(0));
        rows.part(5, 0, 10, 12);
        Due.is("reverse two", 2, () -> rows.reverse(5));
        Due.is("reverse two: the row", "1 2 - 0 -99 99 2 5 -6 2 8 7", () -> rows.text(0));
    }

    private static void reverseStaysInItsPart() {
        Twinrow rows = Limits.sample();
        Due.is("reverse a part", 7, () -> rows.reverse(3));
        Due.is("reverse a part: the row", "1 2 -6 5 2 99 -99 0 - 2 7 8", () -> rows.text(0));
    }

    // ---- rotate

    private static void rotate() {
        Limits.lists("rotate", (rows, list) -> rows.rotate(list, 1));
        Limits.illegalOutside("rotate: by not -99 to 99", -99, 99, (rows, by) -> rows.rotate(0, by));
        Limits.illegalOutside("rotate an empty one: by", -99, 99, (rows, by) -> rows.rotate(1, by));
        Limits.illegalOutside("rotate one: by", -99, 99, (rows, by) -> rows.rotate(5, by));
    }

    private static void isRotated(int by, String want) {
        Twinrow rows = Limits.sample();
        Due.is("rotate by " + by, 12, () -> rows.rotate(0, by));
        Due.is("rotate by " + by + ": the row", want, () -> rows.text(0));
    }

    private static void rotateByTheLength() {
        isRotated(0, "1 2 - 0 -99 99 2 5 -6 2 7 8");
        isRotated(12, "1 2 - 0 -99 99 2 5 -6 2 7 8");
        isRotated(-12, "1 2 - 0 -99 99 2 5 -6 2 7 8");
        isRotated(1, "8 1 2 - 0 -99 99 2 5 -6 2 7");
        isRotated(13, "8 1 2 - 0 -99 99 2 5 -6 2 7");
        isRotated(-11, "8 1 2 - 0 -99 99 2 5 -6 2 7");
        isRotated(-1, "2 - 0 -99 99 2 5 -6 2 7 8 1");
        isRotated(-13, "2 - 0 -99 99 2 5 -6 2 7 8 1");
        isRotated(11, "2 - 0 -99 99 2 5 -6 2 7 8 1");
    }

    private static void rotateByTheMost() {
        isRotated(99, "2 7 8 1 2 - 0 -99 99 2 5 -6");
        isRotated(-99, "0 -99 99 2 5 -6 2 7 8 1 2 -");
    }

    private static void rotateOneOfAPart() {
        Twinrow rows = Limits.sample();
        Due.is("rotate one", 1, () -> rows.rotate(5, 99));
        Due.is("rotate one the other way", 1, () -> rows.rotate(5, -99));
        Due.is("rotate one: the row", "1 2 - 0 -99 99 2 5 -6 2 7 8", () -> rows.text(0));
        Due.is("rotate a part by its length and one", 7, () -> rows.rotate(3, 8));
        Due.is("rotate a part: the row", "1 2 -6 - 0 -99 99 2 5 2 7 8", () -> rows.text(0));
    }

    // ---- swap

    private static void swap() {
        Limits.lists("swap", (rows, list) -> rows.swap(list, 0, 0));
        Limits.placesOfAFullOne("swap, one", (rows, one) -> rows.swap(0, one, 5));
        Limits.placesOfAFullOne("swap, other", (rows, other) -> rows.swap(0, 5, other));
        Limits.placesOfAFullOne("swap, both", (rows, both) -> rows.swap(0, both, both));
        Limits.placesOfAPart("swap, one", (rows, one) -> rows.swap(3, one, 5));
        Limits.placesOfAPart("swap, other", (rows, other) -> rows.swap(3, 5, other));
        Limits.placesOfAnEmptyOne("swap", (rows, place) -> rows.swap(1, place, place));
        Limits.placesOfAnEmptyOne("swap in a part", (rows, place) -> rows.swap(4, place, place));
    }

    private static void swapUnlikeOnes() {
        Twinrow rows = Limits.sample();
        Due.is("swap the first and the last", 1, () -> rows.swap(0, 0, 11));
        Due.is("swap nothing and zero", 1, () -> rows.swap(0, 2, 3));
        Due.is("swap like ones", 0, () -> rows.swap(0, 1, 9));
        Due.is("swap one with itself", 0, () -> rows.swap(5, 0, 0));
        Due.is("the row", "8 2 0 - -99 99 2 5 -6 2 7 1", () -> rows.text(0));
        rows.set(0, 2, Due.NOTHING);
        Due.is("swap nothing and nothing", 0, () -> rows.swap(0, 2, 3));
    }

    private static void nothingChangesInAnEmptyOne() {
        Twinrow rows = Limits.sample();
        String before = Due.state(rows);
        for (int list : EMPTY_LISTS) {
            Due.is("walkSet in an empty one", 0, () -> rows.walkSet(list, 0, 0, 1, false));
            Due.is("walkSet back in an empty one", 0, () -> rows.walkSet(list, 0, 0, 1, true));
            Due.is("replaceAll in an empty one", 0, () -> rows.replaceAll(list, 0, 1));
            Due.is("replaceOld in an empty one", 0, () -> rows.replaceOld(list, 2, 1));
            Due.is("fill an empty one", 0, () -> rows.fill(list, 1));
            Due.is("reverse an empty one", 0, () -> rows.reverse(list));
            Due.is("rotate an empty one", 0, () -> rows.rotate(list, 1));
        }
        Due.is("empty ones change nothing", before, () -> Due.state(rows));
    }
}
