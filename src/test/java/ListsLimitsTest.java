/** The limits that promises 6 to 22 name, a test for each. */
public final class ListsLimitsTest {
    public static void main(String[] args) {
        set();
        setInAnEmptyPartOrOne();
        get();
        length();
        isEmpty();
        text();
        back();
        indexOf();
        lastIndexOf();
        has();
        often();
        searchesInAnEmptyOne();
        searchesAtTheFirstAndLastPlace();
        hasAll();
        areApart();
        indexOfAll();
        indexOfAllAtTheEnds();
        areEqual();
        code();
        walk();
        walkFromTheEnds();
        walkSoMany();
        walkAnEmptyOne();
        sum();
        Due.end();
    }

    // ---- places

    private static void set() {
        Limits.lists("set", (rows, list) -> rows.set(list, 0, 5));
        Limits.placesOfAFullOne("set", (rows, place) -> rows.set(0, place, 5));
        Limits.placesOfAPart("set", (rows, place) -> rows.set(3, place, 5));
        Limits.placesOfAnEmptyOne("set", (rows, place) -> rows.set(1, place, 5));
        Limits.placesOfAnEmptyOne("set in a part", (rows, place) -> rows.set(4, place, 5));
        Limits.values("set", (rows, value) -> rows.set(3, 6, value));
    }

    private static void setInAnEmptyPartOrOne() {
        Twinrow rows = Limits.sample();
        Due.is("set the only place of a part", 8, () -> rows.set(5, 0, -99));
        Due.is("set the only place of a part: the row's last", -99, () -> rows.at(0, 11));
        Due.is("set the part's first place", Due.NOTHING, () -> rows.set(3, 0, 99));
        Due.is("set the part's first place: the row", 99, () -> rows.at(0, 2));
        Due.is("set the part's last place", -6, () -> rows.set(3, 6, Due.NOTHING));
        Due.is("set the part's last place: the row", Due.NOTHING, () -> rows.at(0, 8));
    }

    private static void get() {
        Limits.lists("get", (rows, list) -> rows.get(list, 0));
        Limits.placesOfAFullOne("get", (rows, place) -> rows.get(0, place));
        Limits.placesOfAPart("get", (rows, place) -> rows.get(3, place));
        Limits.placesOfAnEmptyOne("get", (rows, place) -> rows.get(1, place));
        Limits.placesOfAnEmptyOne("get in a part", (rows, place) -> rows.get(4, place));
        Twinrow rows = Limits.sample();
        Due.is("get the part's first", Due.NOTHING, () -> rows.get(3, 0));
        Due.is("get the part's last", -6, () -> rows.get(3, 6));
        Due.is("get the row's last", 8, () -> rows.get(0, 11));
    }

    private static void length() {
        Limits.lists("length", Twinrow::length);
        Twinrow rows = Limits.sample();
        Due.is("length of a full one", 12, () -> rows.length(0));
        Due.is("length of an empty row", 0, () -> rows.length(1));
        Due.is("length of an empty part", 0, () -> rows.length(4));
        Due.is("length of one", 1, () -> rows.length(5));
    }

    private static void isEmpty() {
        Limits.lists("isEmpty", Twinrow::isEmpty);
        Twinrow rows = Limits.sample();
        Due.is("isEmpty of a full one", false, () -> rows.isEmpty(0));
        Due.is("isEmpty of an empty row", true, () -> rows.isEmpty(1));
        Due.is("isEmpty of an empty part", true, () -> rows.isEmpty(4));
        rows.set(5, 0, Due.NOTHING);
        Due.is("isEmpty of nothing", false, () -> rows.isEmpty(5));
    }

    // ---- texts

    private static void text() {
        Limits.lists("text", Twinrow::text);
        Twinrow rows = new Twinrow();
        rows.lay(0, 12);
        rows.fill(0, -99);
        Due.is("the longest text", "-99 -99 -99 -99 -99 -99 -99 -99 -99 -99 -99 -99", () -> rows.text(0));
        rows.fill(0, Due.NOTHING);
        Due.is("text of only nothing", "- - - - - - - - - - - -", () -> rows.text(0));
    }

    private static void back() {
        Limits.lists("back", Twinrow::back);
        Twinrow rows = Limits.sample();
        Due.is("back of a full one", "8 7 2 -6 5 2 99 -99 0 - 2 1", () -> rows.back(0));
        Due.is("back of a part", "-6 5 2 99 -99 0 -", () -> rows.back(3));
        Due.is("back of an empty row", "", () -> rows.back(1));
        Due.is("back of an empty part", "", () -> rows.back(4));
        Due.is("back of one", "8", () -> rows.back(5));
    }

    // ---- searches of one value

    private static void indexOf() {
        Limits.lists("indexOf", (rows, list) -> rows.indexOf(list, 5));
        Limits.values("indexOf", (rows, value) -> rows.indexOf(0, value));
        Limits.values("indexOf in an empty one", (rows, value) -> rows.indexOf(1, value));
    }

    private static void lastIndexOf() {
        Limits.lists("lastIndexOf", (rows, list) -> rows.lastIndexOf(list, 5));
        Limits.values("lastIndexOf", (rows, value) -> rows.lastIndexOf(0, value));
        Limits.values("lastIndexOf in an empty one", (rows, value) -> rows.lastIndexOf(1, value));
    }

    private static void has() {
        Limits.lists("has", (rows, list) -> rows.has(list, 5));
        Limits.values("has", (rows, value) -> rows.has(0, value));
        Limits.values("has in an empty one", (rows, value) -> rows.has(1, value));
    }

    private static void often() {
        Limits.lists("often", (rows, list) -> rows.often(list, 5));
        Limits.values("often", (rows, value) -> rows.often(0, value));
        Limits.values("often in an empty one", (rows, value) -> rows.often(1, value));
        Twinrow rows = Limits.sample();
        rows.fill(0, 7);
        Due.is("often, in each place", 12, () -> rows.often(0, 7));
        Due.is("often, in each place of a part", 7, () -> rows.often(3, 7));
    }

    private static void searchesInAnEmptyOne() {
        Twinrow rows = Limits.sample();
        for (int list : new int[] {1, 4}) {
            for (int value : new int[] {0, Due.NOTHING, -6}) {
                Due.is("indexOf in an empty one", Due.NONE, () -> rows.indexOf(list, value));
                Due.is("lastIndexOf in an empty one", Due.NONE, () -> rows.lastIndexOf(list, value));
                Due.is("has in an empty one", false, () -> rows.has(list, value));
                Due.is("often in an empty one", 0, () -> rows.often(list, value));
            }
        }
    }

    private static void searchesAtTheFirstAndLastPlace() {
        Twinrow rows = Limits.sample();
        Due.is("indexOf the first", 0, () -> rows.indexOf(0, 1));
        Due.is("lastIndexOf the first", 0, () -> rows.lastIndexOf(0, 1));
        Due.is("indexOf the last", 11, () -> rows.indexOf(0, 8));
        Due.is("lastIndexOf the last", 11, () -> rows.lastIndexOf(0, 8));
        Due.is("indexOf the part's first", 0, () -> rows.indexOf(3, Due.NOTHING));
        Due.is("lastIndexOf the part's last", 6, () -> rows.lastIndexOf(3, -6));
        Due.is("indexOf what is ahead of the part", Due.NONE, () -> rows.indexOf(3, 1));
        Due.is("lastIndexOf what is behind the part, too", 4, () -> rows.lastIndexOf(3, 2));
        Due.is("has what is behind the part", false, () -> rows.has(3, 7));
        Due.is("often what is around the part, too", 1, () -> rows.often(3, 2));
    }

    // ---- two lists

    private static void hasAll() {
        Limits.lists("hasAll", (rows, list) -> rows.hasAll(list, 0));
        Limits.lists("hasAll of the other one", (rows, other) -> rows.hasAll(0, other));
        Twinrow rows = Limits.sample();
        Due.is("a full one has all of its part", true, () -> rows.hasAll(0, 3));
        Due.is("the part has not all of the full one", false, () -> rows.hasAll(3, 0));
        Due.is("an empty one has all of an empty one", true, () -> rows.hasAll(1, 4));
        Due.is("a full one has all of an empty one", true, () -> rows.hasAll(0, 1));
        Due.is("an empty one has not all of one", false, () -> rows.hasAll(1, 5));
        Due.is("it has all of itself", true, () -> rows.hasAll(0, 0));
    }

    private static void areApart() {
        Limits.lists("areApart", (rows, list) -> rows.areApart(list, 0));
        Limits.lists("areApart from the other one", (rows, other) -> rows.areApart(0, other));
        Twinrow rows = Limits.sample();
        Due.is("an empty one is apart from a full one", true, () -> rows.areApart(1, 0));
        Due.is("a full one is apart from an empty one", true, () -> rows.areApart(0, 1));
        Due.is("an empty one is apart from itself", true, () -> rows.areApart(4, 4));
        Due.is("a full one is not apart from itself", false, () -> rows.areApart(0, 0));
        Due.is("one is not apart from the full one", false, () -> rows.areApart(5, 0));
        Due.is("one is apart from a part without it", true, () -> rows.areApart(3, 5));
        rows.fill(2, Due.NOTHING);
        Due.is("nothing in both", false, () -> rows.areApart(2, 3));
        rows.set(3, 0, 0);
        Due.is("nothing in one alone", true, () -> rows.areApart(2, 3));
    }

    private static void indexOfAll() {
        Limits.lists("indexOfAll", (rows, list) -> rows.indexOfAll(list, 0));
        Limits.lists("indexOfAll of the other one", (rows, other) -> rows.indexOfAll(0, other));
        Twinrow rows = Limits.sample();
        Due.is("an empty one in a full one", 0, () -> rows.indexOfAll(0, 1));
        Due.is("an empty one in an empty one", 0, () -> rows.indexOfAll(4, 1));
        Due.is("one in an empty one", Due.NONE, () -> rows.indexOfAll(1, 5));
        Due.is("a longer one", Due.NONE, () -> rows.indexOfAll(3, 0));
        Due.is("itself", 0, () -> rows.indexOfAll(0, 0));
    }

    private static void indexOfAllAtTheEnds() {
        Twinrow rows = Limits.sample();
        rows.part(6, 0, 0, 2);
        Due.is("at the beginning", 0, () -> rows.indexOfAll(0, 6));
        rows.part(6, 0, 9, 12);
        Due.is("at the end", 9, () -> rows.indexOfAll(0, 6));
        Due.is("one at the end", 2, () -> rows.indexOfAll(6, 5));
        Due.is("only behind the part's end", Due.NONE, () -> rows.indexOfAll(3, 6));
        rows.part(6, 0, 0, 7);
        Due.is("as long, but another", Due.NONE, () -> rows.indexOfAll(3, 6));
        rows.fill(0, 4);
        Due.is("at each place: the first", 0, () -> rows.indexOfAll(0, 3));
    }

    private static void areEqual() {
        Limits.lists("areEqual", (rows, list) -> rows.areEqual(list, 0));
        Limits.lists("areEqual to the other one", (rows, other) -> rows.areEqual(0, other));
        Twinrow rows = Limits.sample();
        Due.is("an empty row and an empty part", true, () -> rows.areEqual(1, 4));
        Due.is("an empty one and one", false, () -> rows.areEqual(1, 5));
        Due.is("one and an empty one", false, () -> rows.areEqual(5, 1));
        rows.part(6, 0, 0, 11);
        Due.is("all but the last", false, () -> rows.areEqual(0, 6));
        Due.is("one more", false, () -> rows.areEqual(6, 0));
        rows.fill(2, 0);
        rows.lay(1, 4);
        Due.is("two of four zeros", true, () -> rows.areEqual(1, 2));
        rows.set(1, 3, Due.NOTHING);
        Due.is("the last is nothing, not zero", false, () -> rows.areEqual(1, 2));
        Due.is("though their codes are the same", rows.code(2), () -> rows.code(1));
    }

    private static void code() {
        Limits.lists("code", Twinrow::code);
        Twinrow rows = Limits.sample();
        Due.is("code of an empty row", 1, () -> rows.code(1));
        Due.is("code of an empty part", 1, () -> rows.code(4));
        Due.is("code of one", 31 + 8, () -> rows.code(5));
        rows.set(5, 0, Due.NOTHING);
        Due.is("code of nothing", 31, () -> rows.code(5));
    }

    // ---- walkers

    private static void walk() {
        Limits.lists("walk", (rows, list) -> rows.walk(list, 0, 12, false));
        Limits.illegalOutside("walk: from not 0 to the length", 0, 12, (rows, from) -> rows.walk(0, from, 12, false));
        Limits.illegalOutside("walk back: from not 0 to the length", 0, 12, (rows, from) -> rows.walk(0, from, 12, true));
        Limits.illegalOutside("walk in a part: from", 0, 7, (rows, from) -> rows.walk(3, from, 12, false));
        Limits.illegalOutside("walk back in a part: from", 0, 7, (rows, from) -> rows.walk(3, from, 12, true));
        Limits.illegalOutside("walk in an empty one: from", 0, 0, (rows, from) -> rows.walk(1, from, 12, true));
        Limits.illegalOutside("walk: many not 0 to 12", 0, 12, (rows, many) -> rows.walk(0, 0, many, false));
        Limits.illegalOutside("walk in an empty one: many", 0, 12, (rows, many) -> rows.walk(4, 0, many, true));
    }

    private static void walkFromTheEnds() {
        Twinrow rows = Limits.sample();
        Due.is("walk a full one", "0:1 1:2 2:- 3:0 4:-99 5:99 6:2 7:5 8:-6 9:2 10:7 11:8", () -> rows.walk(0, 0, 12, false));
        Due.is("walk a full one back", "11:8 10:7 9:2 8:-6 7:5 6:2 5:99 4:-99 3:0 2:- 1:2 0:1", () -> rows.walk(0, 12, 12, true));
        Due.is("walk from the end", "", () -> rows.walk(0, 12, 12, false));
        Due.is("walk back from the beginning", "", () -> rows.walk(0, 0, 12, true));
        Due.is("walk from the last", "11:8", () -> rows.walk(0, 11, 12, false));
        Due.is("walk back from the second", "0:1", () -> rows.walk(0, 1, 12, true));
        Due.is("walk a part to its end", "5:5 6:-6", () -> rows.walk(3, 5, 12, false));
        Due.is("walk a part back to its beginning", "1:0 0:-", () -> rows.walk(3, 2, 12, true));
    }

    private static void walkSoMany() {
        Twinrow rows = Limits.sample();
        Due.is("walk none", "", () -> rows.walk(0, 6, 0, false));
        Due.is("walk none back", "", () -> rows.walk(0, 6, 0, true));
        Due.is("walk one", "6:2", () -> rows.walk(0, 6, 1, false));
        Due.is("walk one back", "5:99", () -> rows.walk(0, 6, 1, true));
        Due.is("walk just as many as there are", "9:2 10:7 11:8", () -> rows.walk(0, 9, 3, false));
        Due.is("walk one more than there are", "9:2 10:7 11:8", () -> rows.walk(0, 9, 4, false));
        Due.is("walk back just as many as there are", "1:2 0:1", () -> rows.walk(0, 2, 2, true));
        Due.is("walk back one more than there are", "1:2 0:1", () -> rows.walk(0, 2, 3, true));
    }

    private static void walkAnEmptyOne() {
        Twinrow rows = Limits.sample();
        for (int list : new int[] {1, 4}) {
            Due.is("walk an empty one", "", () -> rows.walk(list, 0, 12, false));
            Due.is("walk an empty one back", "", () -> rows.walk(list, 0, 12, true));
        }
    }

    private static void sum() {
        Limits.lists("sum", Twinrow::sum);
        Twinrow rows = Limits.sample();
        Due.is("sum of an empty row", 0, () -> rows.sum(1));
        Due.is("sum of an empty part", 0, () -> rows.sum(4));
        rows.fill(0, 99);
        Due.is("the greatest sum", 1188, () -> rows.sum(0));
        rows.fill(0, -99);
        Due.is("the least sum", -1188, () -> rows.sum(0));
        rows.fill(3, Due.NOTHING);
        Due.is("sum with nothing as 0", -495, () -> rows.sum(0));
        Due.is("sum of only nothing", 0, () -> rows.sum(3));
    }
}
