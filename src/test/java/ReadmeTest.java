/** The calls that README.md shows, in their order, with the answers that it tells. */
public final class ReadmeTest {
    public static void main(String[] args) {
        Twinrow rows = new Twinrow();
        Due.is("lay", 0, () -> rows.lay(0, 6));
        Due.is("put", 0, () -> rows.put(0, 2, 7));
        Due.is("part", 4, () -> rows.part(3, 0, 1, 5));
        Due.is("part of a part", 2, () -> rows.part(4, 3, 1, 3));
        Due.is("set", 0, () -> rows.set(3, 0, -1000));
        Due.is("text of the twin", "0 - 7 0 0 0", () -> rows.text(0));
        Due.is("text of the part's part", "7 0", () -> rows.text(4));
        Due.is("walk back", "1:7 0:-", () -> rows.walk(3, 2, 12, true));
        Due.is("indexOf", -1, () -> rows.indexOf(4, 99));
        Due.is("replaceAll", 4, () -> rows.replaceAll(3, 0, 5));
        Due.is("text of the twin then", "0 5 12 5 5 0", () -> rows.text(0));
        Due.is("add", -9, () -> rows.add(3, 5));
        Due.is("house", 1, () -> rows.house(1));
        Due.is("lay again", 2, () -> rows.lay(0, 6));
        Due.isOutOfBounds("text of a part that went", rows, () -> rows.text(3));
        Due.isIllegal("put 100", rows, () -> rows.put(0, 0, 100));
        Due.end();
    }
}
