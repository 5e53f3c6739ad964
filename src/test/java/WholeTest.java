/** Promises 41 to 46: what is told of the whole. */
public final class WholeTest {
    public static void main(String[] args) {
        knock();
        house();
        rowOfAndBegin();
        isSound();
        digest();
        Due.end();
    }

    private static void knock() {
        Twinrow rows = new Twinrow();
        Due.is("knock", 1, rows::knock);
        Due.is("knock again", 2, rows::knock);
        Due.is("knocks are counted", 2, () -> rows.house(0));
        Due.is("of another object none", 0, () -> new Twinrow().house(0));
    }

    private static void house() {
        Twinrow rows = new Twinrow();
        rows.add(0, 1);
        rows.clear(1);
        rows.knock();
        rows.lay(0, 12);
        rows.lay(1, 0);
        rows.part(3, 0, 0, 5);
        rows.part(6, 1, 0, 0);
        rows.part(6, 6, 0, 0);
        Due.is("house: knocks", 1, () -> rows.house(0));
        Due.is("house: refusals", 2, () -> rows.house(1));
        Due.is("house: parts", 2, () -> rows.house(2));
        Due.is("house: places", 16, () -> rows.house(3));
    }

    private static void rowOfAndBegin() {
        Twinrow rows = new Twinrow();
        rows.lay(2, 9);
        rows.part(3, 2, 3, 8);
        rows.part(5, 3, 4, 5);
        Due.is("rowOf a twin", 2, () -> rows.rowOf(2));
        Due.is("rowOf a part", 2, () -> rows.rowOf(3));
        Due.is("rowOf a part's part", 2, () -> rows.rowOf(5));
        Due.is("rowOf, not there", Due.NONE, () -> rows.rowOf(4));
        Due.is("begin of a twin", 0, () -> rows.begin(2));
        Due.is("begin of a part", 3, () -> rows.begin(3));
        Due.is("begin of a part's part", 7, () -> rows.begin(5));
        Due.is("begin, not there", Due.NONE, () -> rows.begin(6));
        rows.lay(2, 9);
        Due.is("rowOf, gone", Due.NONE, () -> rows.rowOf(3));
        Due.is("begin, gone", Due.NONE, () -> rows.begin(3));
    }

    private static void isSound() {
        Twinrow rows = new Twinrow();
        Due.is("isSound of a new object", true, rows::isSound);
        Due.lay(rows, 0, 1, Due.NOTHING, 1, 0, Due.NOTHING, 0);
        rows.lay(1, 0);
        Due.lay(rows, 2, 99, 99, 99, 99, 99, 99, -99, 99, 99, 99, 99, 99);
        rows.part(3, 0, 1, 5);
        rows.part(4, 3, 2, 4);
        rows.part(5, 2, 12, 12);
        rows.part(6, 1, 0, 0);
        rows.clear(0);
        Due.is("isSound of a full object", true, rows::isSound);
        Due.is("isSound counts nothing", 1, () -> rows.house(1));
        rows.lay(0, 1);
        Due.is("isSound when parts went", true, rows::isSound);
    }

    private static void digest() {
        Twinrow rows = new Twinrow();
        Due.is("digest of a new object", 5937397835947081075L, rows::digest);
        rows.lay(0, 1);
        rows.put(0, 0, Due.NOTHING);
        rows.lay(1, 0);
        rows.lay(2, 2);
        rows.put(2, 0, -3);
        rows.put(2, 1, 4);
        rows.part(4, 2, 1, 2);
        rows.knock();
        rows.clear(2);
        rows.clear(2);
        long want = 7778;
        int[] numbers = {
            1, 2, 1, 3, // house
            1, -1000, 0, 2, -3, 4, // rows
            0, 0, 1, 31, 0, 1, 0, 0, 1, 0, 2, 0, 2, (31 - 3) * 31 + 4, 1, // twins
            -1, -1, 2, 1, 1, 35, 4, -1, -1, -1, -1, // parts
            1};
        for (int number : numbers) {
            want = want * 31 + number;
        }
        Due.is("digest", want, rows::digest);
        Due.is("digest counts nothing", want, rows::digest);
    }
}
