/** Promises 6 to 22: what a list sets and tells. */
public final class ListsTest {
    public static void main(String[] args) {
        set();
        get();
        lengthAndIsEmpty();
        textAndBack();
        searchesOfOne();
        hasAll();
        areApart();
        indexOfAll();
        areEqual();
        code();
        walk();
        sum();
        Due.end();
    }

    private static void set() {
        Twinrow rows = Due.with(0, 1, 2, 3, 4);
        rows.part(3, 0, 1, 4);
        rows.part(4, 3, 1, 2);
        Due.is("set in the twin", 1, () -> rows.set(0, 0, -99));
        Due.is("set in a part", 4, () -> rows.set(3, 2, 99));
        Due.is("set in a part's part", 3, () -> rows.set(4, 0, Due.NOTHING));
        Due.is("set: what stood there", Due.NOTHING, () -> rows.set(3, 1, Due.NOTHING));
        Due.is("set: the row", "-99 2 - 99", () -> rows.text(0));
    }

    private static void get() {
        Twinrow rows = Due.with(1, 1, Due.NOTHING, 3);
        rows.part(5, 1, 1, 2);
        Due.is("get", 3, () -> rows.get(1, 2));
        Due.is("get nothing", Due.NOTHING, () -> rows.get(5, 0));
        rows.put(1, 1, 7);
        Due.is("get what was put", 7, () -> rows.get(5, 0));
    }

    private static void lengthAndIsEmpty() {
        Twinrow rows = new Twinrow();
        rows.lay(0, 12);
        rows.lay(2, 0);
        rows.part(3, 0, 4, 9);
        rows.part(4, 3, 5, 5);
        Due.is("length of a twin", 12, () -> rows.length(0));
        Due.is("length at first", 4, () -> rows.length(1));
        Due.is("length of none", 0, () -> rows.length(2));
        Due.is("length of a part", 5, () -> rows.length(3));
        Due.is("length of an empty part", 0, () -> rows.length(4));
        Due.is("isEmpty of a twin", false, () -> rows.isEmpty(0));
        Due.is("isEmpty of none", true, () -> rows.isEmpty(2));
        Due.is("isEmpty of a part", false, () -> rows.isEmpty(3));
        Due.is("isEmpty of an empty part", true, () -> rows.isEmpty(4));
    }

    private static void textAndBack() {
        Twinrow rows = Due.with(0, -12, 34, Due.NOTHING, 0, 5);
        rows.part(3, 0, 1, 3);
        rows.part(4, 0, 2, 2);
        rows.part(5, 0, 2, 3);
        Due.is("text", "-12 34 - 0 5", () -> rows.text(0));
        Due.is("back", "5 0 - 34 -12", () -> rows.back(0));
        Due.is("text of a part", "34 -", () -> rows.text(3));
        Due.is("back of a part", "- 34", () -> rows.back(3));
        Due.is("text of none", "", () -> rows.text(4));
        Due.is("back of none", "", () -> rows.back(4));
        Due.is("text of nothing", "-", () -> rows.text(5));
        Due.is("back of nothing", "-", () -> rows.back(5));
    }

    private static void searchesOfOne() {
        Twinrow rows = Due.with(0, 7, 5, Due.NOTHING, 5, 0, Due.NOTHING);
        rows.part(3, 0, 1, 5);
        rows.part(4, 0, 0, 0);
        Due.is("indexOf", 1, () -> rows.indexOf(0, 5));
        Due.is("indexOf in a part", 0, () -> rows.indexOf(3, 5));
        Due.is("indexOf nothing", 2, () -> rows.indexOf(0, Due.NOTHING));
        Due.is("indexOf what stands ahead of the part", Due.NONE, () -> rows.indexOf(3, 7));
        Due.is("indexOf in none", Due.NONE, () -> rows.indexOf(4, 7));
        Due.is("lastIndexOf", 3, () -> rows.lastIndexOf(0, 5));
        Due.is("lastIndexOf in a part", 2, () -> rows.lastIndexOf(3, 5));
        Due.is("lastIndexOf nothing", 5, () -> rows.lastIndexOf(0, Due.NOTHING));
        Due.is("lastIndexOf nothing in a part", 1, () -> rows.lastIndexOf(3, Due.NOTHING));
        Due.is("lastIndexOf the first", 0, () -> rows.lastIndexOf(0, 7));
        Due.is("lastIndexOf without", Due.NONE, () -> rows.lastIndexOf(0, 99));
        Due.is("has", true, () -> rows.has(0, 7));
        Due.is("has nothing", true, () -> rows.has(3, Due.NOTHING));
        Due.is("has the last", true, () -> rows.has(3, 0));
        Due.is("has not", false, () -> rows.has(3, 7));
        Due.is("has in none", false, () -> rows.has(4, 0));
        Due.is("often", 2, () -> rows.often(0, 5));
        Due.is("often nothing", 2, () -> rows.often(0, Due.NOTHING));
        Due.is("often nothing in a part", 1, () -> rows.often(3, Due.NOTHING));
        Due.is("often a zero, not nothing", 1, () -> rows.often(0, 0));
        Due.is("often the first", 1, () -> rows.often(0, 7));
        Due.is("often not", 0, () -> rows.often(0, -99));
    }

    private static void hasAll() {
        Twinrow rows = Due.with(0, 1, 2, Due.NOTHING);
        Due.lay(rows, 1, 2, 2, 1, Due.NOTHING, 1);
        Due.lay(rows, 2, 1, 0);
        rows.part(3, 2, 1, 1);
        rows.part(4, 2, 0, 1);
        Due.is("hasAll, more often", true, () -> rows.hasAll(0, 1));
        Due.is("hasAll, the other way", true, () -> rows.hasAll(1, 0));
        Due.is("hasAll not: zero is not nothing", false, () -> rows.hasAll(0, 2));
        Due.is("hasAll of fewer", true, () -> rows.hasAll(0, 4));
        Due.is("hasAll in fewer", false, () -> rows.hasAll(4, 0));
        Due.is("hasAll of none", true, () -> rows.hasAll(0, 3));
        Due.is("hasAll in none", false, () -> rows.hasAll(3, 4));
        Due.is("hasAll of none in none", true, () -> rows.hasAll(3, 3));
        Due.is("hasAll of itself", true, () -> rows.hasAll(1, 1));
    }

    private static void areApart() {
        Twinrow rows = Due.with(0, 1, Due.NOTHING, 3);
        Due.lay(rows, 1, 0, 4, Due.NOTHING);
        Due.lay(rows, 2, 4, 0, 2);
        rows.part(3, 0, 1, 1);
        Due.is("areApart not: nothing in both", false, () -> rows.areApart(0, 1));
        Due.is("areApart", true, () -> rows.areApart(0, 2));
        Due.is("areApart, the other way", true, () -> rows.areApart(2, 0));
        Due.is("areApart not", false, () -> rows.areApart(2, 1));
        Due.is("areApart from none", true, () -> rows.areApart(0, 3));
        Due.is("areApart of none", true, () -> rows.areApart(3, 0));
        Due.is("areApart of none from itself", true, () -> rows.areApart(3, 3));
        Due.is("areApart from itself", false, () -> rows.areApart(2, 2));
    }

    private static void indexOfAll() {
        Twinrow rows = Due.with(0, 1, 1, 2, Due.NOTHING, 1, 2, Due.NOTHING);
        Due.lay(rows, 1, 1, 2, Due.NOTHING);
        Due.lay(rows, 2, 2, 1);
        rows.part(3, 0, 7, 7);
        rows.part(4, 0, 4, 7);
        rows.part(5, 0, 6, 7);
        Due.is("indexOfAll", 1, () -> rows.indexOfAll(0, 1));
        Due.is("indexOfAll of a part of itself", 1, () -> rows.indexOfAll(0, 4));
        Due.is("indexOfAll in the other order", Due.NONE, () -> rows.indexOfAll(0, 2));
        Due.is("indexOfAll of none", 0, () -> rows.indexOfAll(0, 3));
        Due.is("indexOfAll of none in none", 0, () -> rows.indexOfAll(3, 3));
        Due.is("indexOfAll in none", Due.NONE, () -> rows.indexOfAll(3, 2));
        Due.is("indexOfAll of a longer one", Due.NONE, () -> rows.indexOfAll(1, 0));
        Due.is("indexOfAll at the end", 2, () -> rows.indexOfAll(1, 5));
        rows.part(6, 0, 0, 5);
        Due.is("indexOfAll that ends behind the part, in the row", 1, () -> rows.indexOfAll(6, 1));
        rows.set(6, 1, 0);
        Due.is("indexOfAll that only ends behind the part", Due.NONE, () -> rows.indexOfAll(6, 1));
        Due.is("indexOfAll behind the part", 4, () -> rows.indexOfAll(0, 1));
        Due.is("indexOfAll of itself", 0, () -> rows.indexOfAll(0, 0));
    }

    private static void areEqual() {
        Twinrow rows = Due.with(0, 1, Due.NOTHING, 1, Due.NOTHING, 0);
        Due.lay(rows, 1, 1, Due.NOTHING);
        Due.lay(rows, 2, 1, 0);
        rows.part(3, 0, 2, 4);
        rows.part(4, 0, 1, 1);
        rows.part(5, 1, 2, 2);
        Due.is("areEqual", true, () -> rows.areEqual(1, 3));
        Due.is("areEqual, the other way", true, () -> rows.areEqual(3, 1));
        Due.is("areEqual not: zero is not nothing", false, () -> rows.areEqual(1, 2));
        Due.is("areEqual not: shorter", false, () -> rows.areEqual(0, 1));
        Due.is("areEqual not: longer", false, () -> rows.areEqual(1, 0));
        Due.is("areEqual of none", true, () -> rows.areEqual(4, 5));
        Due.is("areEqual not to none", false, () -> rows.areEqual(1, 4));
        Due.is("areEqual to itself", true, () -> rows.areEqual(0, 0));
    }

    private static void code() {
        Twinrow rows = Due.with(0, 3, Due.NOTHING, -5);
        rows.part(3, 0, 2, 2);
        rows.part(4, 0, 1, 2);
        rows.part(5, 0, 2, 3);
        Due.is("code", ((31 + 3) * 31 + 0) * 31 - 5, () -> rows.code(0));
        Due.is("code of none", 1, () -> rows.code(3));
        Due.is("code of nothing", 31, () -> rows.code(4));
        Due.is("code of a part", 26, () -> rows.code(5));
        Due.lay(rows, 1, 99, 99, 99, 99, 99, 99, 99, 99, 99, 99, 99, 99);
        Due.is("code wraps around", java.util.Collections.nCopies(12, 99).hashCode(), () -> rows.code(1));
    }

    private static void walk() {
        Twinrow rows = Due.with(0, 5, -6, Due.NOTHING, 8);
        rows.part(3, 0, 1, 4);
        rows.part(4, 0, 1, 1);
        Due.is("walk", "0:5 1:-6 2:- 3:8", () -> rows.walk(0, 0, 12, false));
        Due.is("walk back", "3:8 2:- 1:-6 0:5", () -> rows.walk(0, 4, 12, true));
        Due.is("walk in a part", "1:- 2:8", () -> rows.walk(3, 1, 12, false));
        Due.is("walk back in a part", "0:-6", () -> rows.walk(3, 1, 12, true));
        Due.is("walk two", "1:-6 2:-", () -> rows.walk(0, 1, 2, false));
        Due.is("walk two back", "2:- 1:-6", () -> rows.walk(0, 3, 2, true));
        Due.is("walk none", "", () -> rows.walk(0, 1, 0, false));
        Due.is("walk from the end", "", () -> rows.walk(0, 4, 3, false));
        Due.is("walk back from the beginning", "", () -> rows.walk(0, 0, 3, true));
        Due.is("walk through none", "", () -> rows.walk(4, 0, 12, false));
        Due.is("walk back through none", "", () -> rows.walk(4, 0, 12, true));
        Due.lay(rows, 1, 0, 0, 0, 0, 0, 0, 0, 0, 0, 0, 7, 8);
        Due.is("walk at places of two digits", "10:7 11:8", () -> rows.walk(1, 10, 12, false));
    }

    private static void sum() {
        Twinrow rows = Due.with(0, 5, Due.NOTHING, -7, 99);
        rows.part(3, 0, 1, 3);
        rows.part(4, 0, 1, 1);
        Due.is("sum", 97, () -> rows.sum(0));
        Due.is("sum of a part", -7, () -> rows.sum(3));
        Due.is("sum of none", 0, () -> rows.sum(4));
    }
}
