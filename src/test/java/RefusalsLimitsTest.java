/** The limits that promises 31 to 40 name, a test for each. */
public final class RefusalsLimitsTest {
    private static final int FULL = 0;
    private static final int EMPTY = 1;
    private static final int PART = 3;
    private static final int EMPTY_PART = 4;
    private static final int ONE = 5;

    public static void main(String[] args) {
        add();
        addIsRefusedOfEachList();
        addAt();
        addAtIsRefusedUpToTheLength();
        addAll();
        addAllOfNone();
        remove();
        removeIsRefusedInEachPlace();
        removeValue();
        removeValueWithout();
        removeAll();
        removeAllOfNothing();
        removeAllWithout();
        retainAll();
        retainAllOfNone();
        retainAllWithout();
        removeIf();
        removeIfWithout();
        clear();
        clearOfNone();
        walkChange();
        walkChangeIsRefusedInEachPlace();
        Due.end();
    }

    // ---- add, addAt, addAll

    private static void add() {
        Limits.lists("add", (rows, list) -> rows.add(list, 5));
        Limits.values("add", (rows, value) -> rows.add(FULL, value));
        Limits.values("add to an empty one", (rows, value) -> rows.add(EMPTY, value));
    }

    private static void addIsRefusedOfEachList() {
        Twinrow rows = Limits.sample();
        Due.isRefused("add to a full one", rows, () -> rows.add(FULL, 99));
        Due.isRefused("add to an empty row", rows, () -> rows.add(EMPTY, -99));
        Due.isRefused("add to a row that has room", rows, () -> rows.add(2, 0));
        Due.isRefused("add to a part", rows, () -> rows.add(PART, Due.NOTHING));
        Due.isRefused("add to an empty part", rows, () -> rows.add(EMPTY_PART, 1));
    }

    private static void addAt() {
        Limits.lists("addAt", (rows, list) -> rows.addAt(list, 0, 5));
        Limits.illegalOutside("addAt: place not 0 to the length", 0, 12, (rows, place) -> rows.addAt(FULL, place, 5));
        Limits.illegalOutside("addAt in a part: place", 0, 7, (rows, place) -> rows.addAt(PART, place, 5));
        Limits.illegalOutside("addAt in an empty one: place", 0, 0, (rows, place) -> rows.addAt(EMPTY, place, 5));
        Limits.illegalOutside("addAt in an empty part: place", 0, 0, (rows, place) -> rows.addAt(EMPTY_PART, place, 5));
        Limits.values("addAt", (rows, value) -> rows.addAt(FULL, 12, value));
        Limits.values("addAt in an empty one", (rows, value) -> rows.addAt(EMPTY, 0, value));
    }

    private static void addAtIsRefusedUpToTheLength() {
        for (int at = 0; at <= 12; at++) {
            int place = at;
            Twinrow rows = Limits.sample();
            Due.isRefused("addAt in a full one, " + place, rows, () -> rows.addAt(FULL, place, 5));
        }
        Twinrow rows = Limits.sample();
        Due.isRefused("addAt behind a part", rows, () -> rows.addAt(PART, 7, Due.NOTHING));
        Due.isRefused("addAt in an empty row", rows, () -> rows.addAt(EMPTY, 0, 5));
        Due.isRefused("addAt in an empty part", rows, () -> rows.addAt(EMPTY_PART, 0, 5));
    }

    private static void addAll() {
        Limits.lists("addAll", (rows, list) -> rows.addAll(list, FULL));
        Limits.lists("addAll, none", (rows, list) -> rows.addAll(list, EMPTY));
        Limits.lists("addAll of the other one", (rows, other) -> rows.addAll(FULL, other));
        Twinrow rows = Limits.sample();
        Due.isRefused("addAll of one", rows, () -> rows.addAll(FULL, ONE));
        Due.isRefused("addAll of one to none", rows, () -> rows.addAll(EMPTY, ONE));
        Due.isRefused("addAll of itself", rows, () -> rows.addAll(FULL, FULL));
    }

    private static void addAllOfNone() {
        Twinrow rows = Limits.sample();
        Due.isNeedless("addAll of an empty row", rows, () -> rows.addAll(FULL, EMPTY));
        Due.isNeedless("addAll of an empty part", rows, () -> rows.addAll(PART, EMPTY_PART));
        Due.isNeedless("addAll of none to itself", rows, () -> rows.addAll(EMPTY, EMPTY));
    }

    // ---- remove, removeValue

    private static void remove() {
        Limits.lists("remove", (rows, list) -> rows.remove(list, 0));
        Limits.placesOfAFullOne("remove", (rows, place) -> rows.remove(FULL, place));
        Limits.placesOfAPart("remove", (rows, place) -> rows.remove(PART, place));
        Limits.placesOfAnEmptyOne("remove", (rows, place) -> rows.remove(EMPTY, place));
        Limits.placesOfAnEmptyOne("remove from a part", (rows, place) -> rows.remove(EMPTY_PART, place));
    }

    private static void removeIsRefusedInEachPlace() {
        for (int at = 0; at < 12; at++) {
            int place = at;
            Twinrow rows = Limits.sample();
            Due.isRefused("remove, " + place, rows, () -> rows.remove(FULL, place));
        }
        Twinrow rows = Limits.sample();
        Due.isRefused("remove the only one", rows, () -> rows.remove(ONE, 0));
    }

    private static void removeValue() {
        Limits.lists("removeValue", (rows, list) -> rows.removeValue(list, 5));
        Limits.values("removeValue", (rows, value) -> rows.removeValue(FULL, value));
        Limits.values("removeValue from an empty one", (rows, value) -> rows.removeValue(EMPTY, value));
        Twinrow rows = Limits.sample();
        Due.isRefused("removeValue, the first", rows, () -> rows.removeValue(FULL, 1));
        Due.isRefused("removeValue, the last", rows, () -> rows.removeValue(FULL, 8));
        Due.isRefused("removeValue of nothing", rows, () -> rows.removeValue(PART, Due.NOTHING));
        Due.isRefused("removeValue, the part's last", rows, () -> rows.removeValue(PART, -6));
    }

    private static void removeValueWithout() {
        Twinrow rows = Limits.sample();
        Due.isNeedless("removeValue of what is ahead of the part", rows, () -> rows.removeValue(PART, 1));
        Due.isNeedless("removeValue of what is behind the part", rows, () -> rows.removeValue(PART, 7));
        Due.isNeedless("removeValue of nothing, without", rows, () -> rows.removeValue(2, Due.NOTHING));
        Due.isNeedless("removeValue from an empty row", rows, () -> rows.removeValue(EMPTY, 0));
        Due.isNeedless("removeValue from an empty part", rows, () -> rows.removeValue(EMPTY_PART, 2));
    }

    // ---- removeAll, retainAll

    private static void removeAll() {
        Limits.lists("removeAll", (rows, list) -> rows.removeAll(list, FULL));
        Limits.lists("removeAll of the other one", (rows, other) -> rows.removeAll(FULL, other));
        Twinrow rows = Limits.sample();
        Due.isRefused("removeAll of its last alone", rows, () -> rows.removeAll(FULL, ONE));
        Due.isRefused("removeAll of itself", rows, () -> rows.removeAll(FULL, FULL));
        Due.isRefused("removeAll of more", rows, () -> rows.removeAll(ONE, FULL));
    }

    private static void removeAllOfNothing() {
        Twinrow rows = Limits.sample();
        Due.lay(rows, EMPTY, Due.NOTHING);
        Due.isRefused("removeAll of nothing", rows, () -> rows.removeAll(PART, EMPTY));
        Due.isNeedless("removeAll of nothing, without", rows, () -> rows.removeAll(2, EMPTY));
    }

    private static void removeAllWithout() {
        Twinrow rows = Limits.sample();
        Due.isNeedless("removeAll of what is behind the part", rows, () -> rows.removeAll(PART, ONE));
        Due.isNeedless("removeAll of an empty one", rows, () -> rows.removeAll(FULL, EMPTY));
        Due.isNeedless("removeAll from an empty one", rows, () -> rows.removeAll(EMPTY_PART, FULL));
        Due.isNeedless("removeAll of an empty one from itself", rows, () -> rows.removeAll(EMPTY, EMPTY));
    }

    private static void retainAll() {
        Limits.lists("retainAll", (rows, list) -> rows.retainAll(list, FULL));
        Limits.lists("retainAll of the other one", (rows, other) -> rows.retainAll(FULL, other));
        Twinrow rows = Limits.sample();
        Due.isRefused("retainAll of the part", rows, () -> rows.retainAll(FULL, PART));
        Due.isRefused("retainAll: nothing does not stand there", rows, () -> rows.retainAll(PART, 2));
        Due.isRefused("retainAll of one that is another", rows, () -> rows.retainAll(ONE, 2));
    }

    private static void retainAllOfNone() {
        Twinrow rows = Limits.sample();
        Due.isRefused("retainAll of an empty row", rows, () -> rows.retainAll(FULL, EMPTY));
        Due.isRefused("retainAll of an empty part", rows, () -> rows.retainAll(ONE, EMPTY_PART));
    }

    private static void retainAllWithout() {
        Twinrow rows = Limits.sample();
        Due.isNeedless("retainAll of the row", rows, () -> rows.retainAll(PART, FULL));
        Due.isNeedless("retainAll of itself", rows, () -> rows.retainAll(FULL, FULL));
        Due.isNeedless("retainAll in an empty row", rows, () -> rows.retainAll(EMPTY, FULL));
        Due.isNeedless("retainAll in an empty part", rows, () -> rows.retainAll(EMPTY_PART, EMPTY));
    }

    // ---- removeIf, clear, walkChange

    private static void removeIf() {
        Limits.lists("removeIf", (rows, list) -> rows.removeIf(list, 2, 99));
        Limits.illegalOutside("removeIf: test not 0 to 2", 0, 2, (rows, test) -> rows.removeIf(FULL, test, 5));
        Limits.illegalOutside("removeIf in an empty one: test", 0, 2, (rows, test) -> rows.removeIf(EMPTY, test, 5));
        Limits.numbers("removeIf", (rows, number) -> rows.removeIf(FULL, 1, number));
        Limits.numbers("removeIf, whether nothing", (rows, number) -> rows.removeIf(FULL, 0, number));
        Limits.numbers("removeIf in an empty one", (rows, number) -> rows.removeIf(EMPTY_PART, 2, number));
        Twinrow rows = Limits.sample();
        Due.isRefused("removeIf, the first alone", rows, () -> rows.removeIf(FULL, 1, 1));
        Due.isRefused("removeIf, the last alone", rows, () -> rows.removeIf(FULL, 1, 8));
        Due.isRefused("removeIf, the part's first alone", rows, () -> rows.removeIf(PART, 0, 0));
        Due.isRefused("removeIf, below the next to the least", rows, () -> rows.removeIf(FULL, 2, -98));
    }

    private static void removeIfWithout() {
        Twinrow rows = Limits.sample();
        Due.isNeedless("removeIf, below the least", rows, () -> rows.removeIf(FULL, 2, -99));
        Due.isNeedless("removeIf, what is around the part", rows, () -> rows.removeIf(PART, 1, 7));
        Due.isNeedless("removeIf nothing, without", rows, () -> rows.removeIf(2, 0, 0));
        for (int tell = 0; tell <= 2; tell++) {
            int test = tell;
            Due.isNeedless("removeIf in an empty row", rows, () -> rows.removeIf(EMPTY, test, 0));
            Due.isNeedless("removeIf in an empty part", rows, () -> rows.removeIf(EMPTY_PART, test, 99));
        }
    }

    private static void clear() {
        Limits.lists("clear", Twinrow::clear);
        Twinrow rows = Limits.sample();
        Due.isRefused("clear a full one", rows, () -> rows.clear(FULL));
        Due.isRefused("clear one", rows, () -> rows.clear(ONE));
    }

    private static void clearOfNone() {
        Twinrow rows = Limits.sample();
        Due.isNeedless("clear an empty row", rows, () -> rows.clear(EMPTY));
        Due.isNeedless("clear an empty part", rows, () -> rows.clear(EMPTY_PART));
    }

    private static void walkChange() {
        Limits.lists("walkChange", (rows, list) -> rows.walkChange(list, 0, 0));
        Limits.placesOfAFullOne("walkChange", (rows, place) -> rows.walkChange(FULL, place, 0));
        Limits.placesOfAPart("walkChange", (rows, place) -> rows.walkChange(PART, place, 1));
        Limits.placesOfAnEmptyOne("walkChange", (rows, place) -> rows.walkChange(EMPTY, place, 2));
        Limits.placesOfAnEmptyOne("walkChange in a part", (rows, place) -> rows.walkChange(EMPTY_PART, place, 2));
        Limits.illegalOutside("walkChange: what not 0 to 2", 0, 2, (rows, what) -> rows.walkChange(FULL, 11, what));
    }

    private static void walkChangeIsRefusedInEachPlace() {
        for (int at = 0; at < 36; at++) {
            int place = at / 3;
            int what = at % 3;
            Twinrow rows = Limits.sample();
            Due.isRefused("walkChange " + what + ", " + place, rows, () -> rows.walkChange(FULL, place, what));
        }
        Twinrow rows = Limits.sample();
        Due.isRefused("walkChange of the only one", rows, () -> rows.walkChange(ONE, 0, 2));
    }
}
