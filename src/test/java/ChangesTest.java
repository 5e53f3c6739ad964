/** Promises 23 to 30: what changes values. */
public final class ChangesTest {
    public static void main(String[] args) {
        walkSet();
        replaceAll();
        replaceOld();
        fill();
        sort();
        reverse();
        rotate();
        swap();
        Due.end();
    }

    private static void walkSet() {
        Twinrow rows = Due.with(0, 1, 2, 3, 4, 5);
        rows.part(3, 0, 1, 4);
        Due.is("walkSet", 2, () -> rows.walkSet(0, 3, 0, 10, false));
        Due.is("walkSet: from there to the end", "1 2 3 14 15", () -> rows.text(0));
        Due.is("walkSet back", 2, () -> rows.walkSet(0, 2, 2, -3, true));
        Due.is("walkSet back: from there to the beginning", "-3 -6 3 14 15", () -> rows.text(0));
        Due.is("walkSet in a part", 2, () -> rows.walkSet(3, 1, 1, 9, false));
        Due.is("walkSet in a part: the row", "-3 -6 9 14 15", () -> rows.text(0));
        Due.is("walkSet back in a part", 3, () -> rows.walkSet(3, 3, 3, 9, true));
        Due.is("walkSet back in a part: the row", "-3 -6 - 14 15", () -> rows.text(0));
        Due.is("walkSet at the end", 0, () -> rows.walkSet(0, 5, 0, 1, false));
        Due.is("walkSet back at the beginning", 0, () -> rows.walkSet(0, 0, 0, 1, true));
        Due.is("walkSet: none given, none set", "-3 -6 - 14 15", () -> rows.text(0));
    }

    private static void replaceAll() {
        isRuled(0, 10, "-5 10 15 99", -15, Due.NOTHING, 5, 95);
        isRuled(0, -10, "-99 -10 -5 85", -95, Due.NOTHING, 5, 95);
        isRuled(1, 4, "4 4 5 95", -95, Due.NOTHING, 4 + 1, 95);
        isRuled(1, -4, "-4 0 5 -4", -95, Due.NOTHING, 5, -5);
        isRuled(2, 20, "-99 0 99 80", -5, Due.NOTHING, 5, 4);
        isRuled(2, -99, "99 0 -99 0", -2, Due.NOTHING, 1, 0);
        isRuled(3, 5, "-5 0 - 0", -5, Due.NOTHING, 5, 0);
        isRuled(3, 0, "-5 - 5 -", -5, Due.NOTHING, 5, 0);
        Twinrow rows = Due.with(0, 1, 2, 3);
        rows.part(3, 0, 1, 2);
        rows.part(4, 0, 1, 1);
        Due.is("replaceAll of a part", 1, () -> rows.replaceAll(3, 0, 5));
        Due.is("replaceAll of none", 0, () -> rows.replaceAll(4, 0, 5));
        Due.is("replaceAll: the row", "1 7 3", () -> rows.text(0));
    }

    private static void isRuled(int rule, int number, String want, int... values) {
        Twinrow rows = Due.with(1, values);
        String what = "replaceAll by rule " + rule + ", " + number;
        Due.is(what, values.length, () -> rows.replaceAll(1, rule, number));
        Due.is(what + ": the row", want, () -> rows.text(1));
    }

    private static void replaceOld() {
        Twinrow rows = Due.with(0, 1, 2, 1, Due.NOTHING, 0, 1);
        rows.part(3, 0, 1, 5);
        rows.part(4, 0, 1, 1);
        Due.is("replaceOld in a part", 1, () -> rows.replaceOld(3, 1, Due.NOTHING));
        Due.is("replaceOld in a part: the row", "1 2 - - 0 1", () -> rows.text(0));
        Due.is("replaceOld of nothing", 1, () -> rows.replaceOld(0, Due.NOTHING, 8));
        Due.is("replaceOld of nothing: the row", "1 2 8 8 0 1", () -> rows.text(0));
        Due.is("replaceOld without", 0, () -> rows.replaceOld(0, 7, 9));
        Due.is("replaceOld of what stands outside", 0, () -> rows.replaceOld(3, 1, 9));
        Due.is("replaceOld by the same", 1, () -> rows.replaceOld(0, 8, 8));
        Due.is("replaceOld in none", 0, () -> rows.replaceOld(4, 8, 9));
        Due.is("replaceOld: the row stays", "1 2 8 8 0 1", () -> rows.text(0));
        Due.is("replaceOld of the first and the last", 1, () -> rows.replaceOld(0, 1, -99));
        Due.is("replaceOld of the first and the last: the row", "-99 2 8 8 0 -99", () -> rows.text(0));
    }

    private static void fill() {
        Twinrow rows = Due.with(2, 1, 2, 3, 4);
        rows.part(3, 2, 1, 3);
        rows.part(4, 2, 4, 4);
        Due.is("fill a part", 2, () -> rows.fill(3, Due.NOTHING));
        Due.is("fill a part: the row", "1 - - 4", () -> rows.text(2));
        Due.is("fill none", 0, () -> rows.fill(4, 9));
        Due.is("fill none: the row", "1 - - 4", () -> rows.text(2));
        Due.is("fill", 4, () -> rows.fill(2, -99));
        Due.is("fill: the row", "-99 -99 -99 -99", () -> rows.text(2));
    }

    private static void sort() {
        Twinrow rows = Due.with(0, 3, -99, Due.NOTHING, 99, 3, 0, Due.NOTHING, -1);
        rows.part(3, 0, 6, 8);
        Due.is("sort", 8, () -> rows.sort(0, false));
        Due.is("sort: the row", "- - -99 -1 0 3 3 99", () -> rows.text(0));
        Due.is("sort: the part sees it", "3 99", () -> rows.text(3));
        Due.is("sort falling", 8, () -> rows.sort(0, true));
        Due.is("sort falling: the row", "99 3 3 0 -1 -99 - -", () -> rows.text(0));
        Due.is("sort again", 8, () -> rows.sort(0, true));
        Due.is("sort again: the row", "99 3 3 0 -1 -99 - -", () -> rows.text(0));
        rows.lay(1, 0);
        Due.is("sort none", 0, () -> rows.sort(1, false));
        Due.lay(rows, 1, 5);
        Due.is("sort one", 1, () -> rows.sort(1, true));
        Due.is("sort one: the row", "5", () -> rows.text(1));
        Due.is("sort: the other rows stay", "0 0 0 0", () -> rows.text(2));
    }

    private static void reverse() {
        Twinrow rows = Due.with(0, 1, 2, Due.NOTHING, 4, 5);
        rows.part(3, 0, 1, 5);
        rows.part(4, 0, 1, 1);
        Due.is("reverse an odd one", 5, () -> rows.reverse(0));
        Due.is("reverse an odd one: the row", "5 4 - 2 1", () -> rows.text(0));
        Due.is("reverse an even one, a part", 4, () -> rows.reverse(3));
        Due.is("reverse a part: the row", "5 1 2 - 4", () -> rows.text(0));
        Due.is("reverse none", 0, () -> rows.reverse(4));
        Due.is("reverse none: the row", "5 1 2 - 4", () -> rows.text(0));
    }

    private static void rotate() {
        Twinrow rows = Due.with(0, 1, 2, 3, 4, 5);
        rows.part(3, 0, 1, 4);
        rows.part(4, 0, 1, 1);
        Due.is("rotate", 5, () -> rows.rotate(0, 2));
        Due.is("rotate: the row", "4 5 1 2 3", () -> rows.text(0));
        Due.is("rotate the other way", 5, () -> rows.rotate(0, -1));
        Due.is("rotate the other way: the row", "5 1 2 3 4", () -> rows.text(0));
        Due.is("rotate a part", 3, () -> rows.rotate(3, 1));
        Due.is("rotate a part: the row", "5 3 1 2 4", () -> rows.text(0));
        Due.is("rotate by none", 5, () -> rows.rotate(0, 0));
        Due.is("rotate by the whole", 5, () -> rows.rotate(0, -95));
        Due.is("rotate by the whole: the row", "5 3 1 2 4", () -> rows.text(0));
        Due.is("rotate by 99", 5, () -> rows.rotate(0, 99));
        Due.is("rotate by 99: the row", "3 1 2 4 5", () -> rows.text(0));
        Due.is("rotate by -99", 5, () -> rows.rotate(0, -99));
        Due.is("rotate by -99: the row", "5 3 1 2 4", () -> rows.text(0));
        Due.is("rotate none", 0, () -> rows.rotate(4, 7));
    }

    private static void swap() {
        Twinrow rows = Due.with(0, 1, 2, Due.NOTHING, 2);
        rows.part(3, 0, 1, 4);
        Due.is("swap", 1, () -> rows.swap(0, 0, 2));
        Due.is("swap: the row", "- 2 1 2", () -> rows.text(0));
        Due.is("swap in a part", 1, () -> rows.swap(3, 1, 0));
        Due.is("swap in a part: the row", "- 1 2 2", () -> rows.text(0));
        Due.is("swap of like ones", 0, () -> rows.swap(0, 2, 3));
        Due.is("swap with itself", 0, () -> rows.swap(0, 1, 1));
        Due.is("swap: the row stays", "- 1 2 2", () -> rows.text(0));
    }
}
