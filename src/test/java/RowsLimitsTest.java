/** The limits that promises 1 to 5 name, a test for each. */
public final class RowsLimitsTest {
    public static void main(String[] args) {
        aNewObjectHasFourPlacesARow();
        aNewObjectHasNoParts();
        lay();
        layNone();
        layTwelve();
        layTheSameLengthMakesAnew();
        layTellsHowManyPartsWent();
        layThatIsNotLetTakesNoPart();
        put();
        at();
        part();
        partOfAPart();
        partWhereThereIsNone();
        partOfNoPlaces();
        partOfAllPlaces();
        partOfItself();
        partsOfPartsToTheLast();
        aPartStaysWhenItsPartIsMadeAnew();
        aPartStaysTillItsRowIsLaidAnew();
        Due.end();
    }

    private static void aNewObjectHasFourPlacesARow() {
        Twinrow rows = new Twinrow();
        for (int row = 0; row < 3; row++) {
            int list = row;
            Due.is("new: length of " + list, 4, () -> rows.length(list));
            Due.is("new: last place of row " + list, 0, () -> rows.at(list, 3));
            Due.isOutOfBounds("new: place 4 of row " + list, rows, () -> rows.at(list, 4));
        }
    }

    private static void aNewObjectHasNoParts() {
        Twinrow rows = new Twinrow();
        Due.is("new: parts", 0, () -> rows.house(2));
        for (int part = 3; part <= 6; part++) {
            int list = part;
            Due.isOutOfBounds("new: length of part " + list, rows, () -> rows.length(list));
            Due.is("new: part " + list + " can be made", 4, () -> rows.part(list, 0, 0, 4));
        }
    }

    // ---- lay

    private static void lay() {
        Limits.rows("lay", (rows, row) -> rows.lay(row, 4));
        Limits.illegalOutside("lay: length not 0 to 12", 0, 12, (rows, length) -> rows.lay(2, length));
    }

    private static void layNone() {
        Twinrow rows = Limits.sample();
        rows.lay(0, 0);
        Due.is("lay none: length", 0, () -> rows.length(0));
        Due.is("lay none: text", "", () -> rows.text(0));
        Due.isOutOfBounds("lay none: place 0", rows, () -> rows.at(0, 0));
    }

    private static void layTwelve() {
        Twinrow rows = Limits.sample();
        rows.lay(0, 0);
        rows.lay(0, 12);
        Due.is("lay twelve where there was none: zeros", "0 0 0 0 0 0 0 0 0 0 0 0", () -> rows.text(0));
        Due.is("lay twelve: the last place", 0, () -> rows.put(0, 11, 99));
        Due.isOutOfBounds("lay twelve: place 12", rows, () -> rows.put(0, 12, 99));
    }

    private static void layTheSameLengthMakesAnew() {
        Twinrow rows = Limits.sample();
        Due.is("lay the same length takes the parts", 3, () -> rows.lay(0, 12));
        Due.is("lay the same length: zeros", "0 0 0 0 0 0 0 0 0 0 0 0", () -> rows.text(0));
    }

    private static void layTellsHowManyPartsWent() {
        for (int many = 0; many <= 4; many++) {
            Twinrow rows = new Twinrow();
            for (int part = 3; part < 3 + many; part++) {
                rows.part(part, 2, 0, 0);
            }
            Due.is("lay with parts", many, () -> rows.lay(2, 4));
            Due.is("lay: none is left", 0, () -> rows.house(2));
            Due.is("lay again", 0, () -> rows.lay(2, 4));
        }
    }

    private static void layThatIsNotLetTakesNoPart() {
        Twinrow rows = Limits.sample();
        Due.isIllegal("lay 13", rows, () -> rows.lay(0, 13));
        Due.is("lay 13: the parts stay", 3, () -> rows.house(2));
        Due.is("lay 13: their values stay", "- 0 -99 99 2 5 -6", () -> rows.text(3));
    }

    // ---- put, at

    private static void put() {
        Limits.rows("put", (rows, row) -> rows.put(row, 0, 5));
        Limits.placesOfAFullOne("put", (rows, place) -> rows.put(0, place, 5));
        Limits.placesOfAnEmptyOne("put", (rows, place) -> rows.put(1, place, 5));
        Limits.values("put", (rows, value) -> rows.put(0, 0, value));
    }

    private static void at() {
        Limits.rows("at", (rows, row) -> rows.at(row, 0));
        Limits.placesOfAFullOne("at", (rows, place) -> rows.at(0, place));
        Limits.placesOfAnEmptyOne("at", (rows, place) -> rows.at(1, place));
    }

    // ---- part

    private static void part() {
        Limits.outOfBoundsOutside("part: part not 3 to 6", 3, 6, (rows, part) -> rows.part(part, 0, 0, 1));
        Limits.lists("part", (rows, list) -> rows.part(6, list, 0, 1));
        Limits.illegalOutside("part: from not 0 to the length", 0, 12, (rows, from) -> rows.part(6, 0, from, 12));
        Limits.illegalOutside("part: to not 0 to the length", 0, 12, (rows, to) -> rows.part(6, 0, 0, to));
        Limits.illegalOutside("part: from above to", 0, 5, (rows, from) -> rows.part(6, 0, from, 5));
    }

    private static void partOfAPart() {
        Limits.illegalOutside("part of a part: from", 0, 7, (rows, from) -> rows.part(6, 3, from, 7));
        Limits.illegalOutside("part of a part: to", 0, 7, (rows, to) -> rows.part(6, 3, 0, to));
    }

    private static void partWhereThereIsNone() {
        Limits.illegalOutside("part of an empty row: from", 0, 0, (rows, from) -> rows.part(6, 1, from, 0));
        Limits.illegalOutside("part of an empty row: to", 0, 0, (rows, to) -> rows.part(6, 1, 0, to));
        Limits.illegalOutside("part of an empty part: to", 0, 0, (rows, to) -> rows.part(6, 4, 0, to));
    }

    private static void partOfNoPlaces() {
        Twinrow rows = Limits.sample();
        for (int place = 0; place <= 12; place++) {
            int from = place;
            Due.is("part of no places", 0, () -> rows.part(6, 0, from, from));
            Due.is("part of no places: begin", from, () -> rows.begin(6));
            Due.is("part of no places: text", "", () -> rows.text(6));
        }
    }

    private static void partOfAllPlaces() {
        Twinrow rows = Limits.sample();
        Due.is("part of all places", 12, () -> rows.part(6, 0, 0, 12));
        Due.is("part of all places: equal", true, () -> rows.areEqual(0, 6));
        rows.set(6, 11, -1);
        Due.is("part of all places: its last is the row's", -1, () -> rows.at(0, 11));
    }

    private static void partOfItself() {
        Twinrow rows = Limits.sample();
        Due.is("all of itself", 7, () -> rows.part(3, 3, 0, 7));
        Due.is("all of itself: begin", 2, () -> rows.begin(3));
        Due.is("its last one", 1, () -> rows.part(3, 3, 6, 7));
        Due.is("its last one: text", "-6", () -> rows.text(3));
        Due.isIllegal("as it was no more", rows, () -> rows.part(3, 3, 0, 7));
        Due.is("none of itself", 0, () -> rows.part(3, 3, 1, 1));
        Due.is("none of itself: begin", 9, () -> rows.begin(3));
        Due.isOutOfBounds("itself, not there", rows, () -> rows.part(6, 6, 0, 0));
    }

    private static void partsOfPartsToTheLast() {
        Twinrow rows = Limits.sample();
        rows.part(3, 0, 0, 12);
        for (int cut = 1; cut <= 12; cut++) {
            int begin = cut;
            int part = 3 + cut % 4;
            int former = 3 + (cut - 1) % 4;
            Due.is("all but the first", 12 - cut, () -> rows.part(part, former, 1, 13 - begin));
            Due.is("all but the first: begin", begin, () -> rows.begin(part));
        }
    }

    private static void aPartStaysWhenItsPartIsMadeAnew() {
        Twinrow rows = Limits.sample();
        rows.part(6, 3, 3, 5);
        rows.part(3, 1, 0, 0);
        Due.is("its part is of another row: text", "99 2", () -> rows.text(6));
        Due.is("its part is of another row: lay that", 1, () -> rows.lay(1, 3));
        Due.is("its part went: text", "99 2", () -> rows.text(6));
        Due.is("its part went: begin", 5, () -> rows.begin(6));
    }

    private static void aPartStaysTillItsRowIsLaidAnew() {
        Twinrow rows = Limits.sample();
        rows.part(6, 3, 3, 5);
        rows.lay(1, 12);
        rows.lay(2, 0);
        Due.is("another row is laid: it stays", "99 2", () -> rows.text(6));
        rows.lay(0, 12);
        Due.isOutOfBounds("its row is laid: it went", rows, () -> rows.text(6));
        Due.is("it can be made again", 2, () -> rows.part(6, 0, 10, 12));
        Due.is("with the new values", "0 0", () -> rows.text(6));
    }
}
