/** Promises 1 to 5: the constructor, lay, put, at, part. */
public final class RowsTest {
    public static void main(String[] args) {
        aNewObject();
        lay();
        layTakesParts();
        put();
        at();
        part();
        partOfParts();
        Due.end();
    }

    private static void aNewObject() {
        Twinrow rows = new Twinrow();
        for (int row = 0; row < 3; row++) {
            int list = row;
            Due.is("new: text " + list, "0 0 0 0", () -> rows.text(list));
            Due.is("new: rowOf " + list, list, () -> rows.rowOf(list));
            Due.is("new: begin " + list, 0, () -> rows.begin(list));
        }
        for (int part = 3; part < 7; part++) {
            int list = part;
            Due.is("new: no part " + list, Due.NONE, () -> rows.rowOf(list));
            Due.isOutOfBounds("new: text " + list, rows, () -> rows.text(list));
        }
        Due.is("new: knocks", 0, () -> rows.house(0));
        Due.is("new: refusals", 0, () -> rows.house(1));
        Due.is("new: places", 12, () -> rows.house(3));
        Twinrow other = new Twinrow();
        rows.put(0, 0, 7);
        Due.is("two objects share nothing", "0 0 0 0", () -> other.text(0));
    }

    private static void lay() {
        Twinrow rows = Due.with(1, 5, 6, 7);
        Due.is("lay longer", 0, () -> rows.lay(1, 12));
        Due.is("lay: zeros", "0 0 0 0 0 0 0 0 0 0 0 0", () -> rows.text(1));
        rows.put(1, 11, 9);
        Due.is("lay none", 0, () -> rows.lay(1, 0));
        Due.is("lay none: text", "", () -> rows.text(1));
        Due.is("lay again", 0, () -> rows.lay(1, 12));
        Due.is("lay again: zeros", "0 0 0 0 0 0 0 0 0 0 0 0", () -> rows.text(1));
        Due.is("lay: others stay", "0 0 0 0", () -> rows.text(0));
    }

    private static void layTakesParts() {
        Twinrow rows = new Twinrow();
        rows.part(3, 0, 0, 4);
        rows.part(4, 1, 0, 2);
        rows.part(5, 3, 1, 2);
        rows.part(6, 0, 4, 4);
        Due.is("lay takes three parts", 3, () -> rows.lay(0, 4));
        Due.is("the other row's part stays", 1, () -> rows.rowOf(4));
        Due.is("one part is there", 1, () -> rows.house(2));
        Due.isOutOfBounds("a part that went", rows, () -> rows.length(3));
        Due.is("lay again takes none", 0, () -> rows.lay(0, 4));
        Due.is("lay takes the last", 1, () -> rows.lay(1, 1));
    }

    private static void put() {
        Twinrow rows = Due.with(2, 1, 2, 3);
        rows.part(3, 2, 1, 3);
        Due.is("put", 3, () -> rows.put(2, 2, -99));
        Due.is("put greatest", 1, () -> rows.put(2, 0, 99));
        Due.is("put nothing", 2, () -> rows.put(2, 1, Due.NOTHING));
        Due.is("put over nothing", Due.NOTHING, () -> rows.put(2, 1, 0));
        Due.is("put is seen in the twin", "99 0 -99", () -> rows.text(2));
        Due.is("put is seen in the part", "0 -99", () -> rows.text(3));
    }

    private static void at() {
        Twinrow rows = Due.with(0, 4, Due.NOTHING);
        Due.is("at", 4, () -> rows.at(0, 0));
        Due.is("at nothing", Due.NOTHING, () -> rows.at(0, 1));
        rows.set(0, 1, 8);
        Due.is("at what the twin set", 8, () -> rows.at(0, 1));
    }

    private static void part() {
        Twinrow rows = Due.with(0, 1, 2, 3, 4, 5);
        Due.is("part", 3, () -> rows.part(3, 0, 1, 4));
        Due.is("part: text", "2 3 4", () -> rows.text(3));
        Due.is("part: whole", 5, () -> rows.part(6, 0, 0, 5));
        Due.is("part: empty at the end", 0, () -> rows.part(5, 0, 5, 5));
        Due.is("part: begin at the end", 5, () -> rows.begin(5));
    }

    private static void partOfParts() {
        Twinrow rows = Due.with(0, 1, 2, 3, 4, 5, 6);
        rows.part(3, 0, 1, 6);
        rows.part(4, 3, 1, 4);
        Due.is("part of a part", "3 4 5", () -> rows.text(4));
        Due.is("part of a part: begin", 2, () -> rows.begin(4));
        Due.is("part of itself", 2, () -> rows.part(3, 3, 3, 5));
        Due.is("part of itself: text", "5 6", () -> rows.text(3));
        Due.is("part of itself: begin", 4, () -> rows.begin(3));
        Due.is("the part of the former stays", "3 4 5", () -> rows.text(4));
        Due.is("made anew of another row", 1, () -> rows.part(3, 2, 3, 4));
        Due.is("made anew: rowOf", 2, () -> rows.rowOf(3));
        Due.is("the part of the former is of row 0", 0, () -> rows.rowOf(4));
        rows.set(4, 0, 9);
        Due.is("and writes there", "1 2 9 4 5 6", () -> rows.text(0));
    }
}
