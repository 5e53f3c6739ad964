/** Promises 31 to 40: what is refused, as it would make a list longer or shorter. */
public final class RefusalsTest {
    public static void main(String[] args) {
        add();
        addAt();
        addAll();
        remove();
        removeValue();
        removeAll();
        retainAll();
        removeIf();
        clear();
        walkChange();
        Due.end();
    }

    /** Row 0 is 1, 2, NOTHING, 0; part 3 is its 2, NOTHING; part 4 is empty. */
    private static Twinrow rowsWithParts() {
        Twinrow rows = Due.with(0, 1, 2, Due.NOTHING, 0);
        rows.part(3, 0, 1, 3);
        rows.part(4, 0, 2, 2);
        return rows;
    }

    private static void add() {
        Twinrow rows = rowsWithParts();
        Due.isRefused("add", rows, () -> rows.add(0, 99));
        Due.isRefused("add nothing", rows, () -> rows.add(3, Due.NOTHING));
        Due.isRefused("add to none", rows, () -> rows.add(4, -99));
    }

    private static void addAt() {
        Twinrow rows = rowsWithParts();
        Due.isRefused("addAt the beginning", rows, () -> rows.addAt(3, 0, 5));
        Due.isRefused("addAt the end", rows, () -> rows.addAt(3, 2, Due.NOTHING));
        Due.isRefused("addAt in none", rows, () -> rows.addAt(4, 0, 5));
    }

    private static void addAll() {
        Twinrow rows = rowsWithParts();
        Due.isRefused("addAll", rows, () -> rows.addAll(0, 3));
        Due.isRefused("addAll of itself", rows, () -> rows.addAll(3, 3));
        Due.isRefused("addAll to none", rows, () -> rows.addAll(4, 0));
        rows.part(5, 0, 2, 3);
        Due.isRefused("addAll of one", rows, () -> rows.addAll(0, 5));
        Due.isNeedless("addAll of none", rows, () -> rows.addAll(0, 4));
        Due.isNeedless("addAll of none to none", rows, () -> rows.addAll(4, 4));
    }

    private static void remove() {
        Twinrow rows = rowsWithParts();
        Due.isRefused("remove the first", rows, () -> rows.remove(3, 0));
        Due.isRefused("remove the last", rows, () -> rows.remove(0, 3));
    }

    private static void removeValue() {
        Twinrow rows = rowsWithParts();
        Due.isRefused("removeValue", rows, () -> rows.removeValue(0, 0));
        Due.isRefused("removeValue nothing", rows, () -> rows.removeValue(3, Due.NOTHING));
        Due.isNeedless("removeValue of what stands outside", rows, () -> rows.removeValue(3, 1));
        Due.isNeedless("removeValue zero, not nothing", rows, () -> rows.removeValue(3, 0));
        Due.isNeedless("removeValue in none", rows, () -> rows.removeValue(4, 2));
    }

    private static void removeAll() {
        Twinrow rows = rowsWithParts();
        Due.lay(rows, 1, 5, Due.NOTHING);
        Due.lay(rows, 2, 5, 9);
        Due.isRefused("removeAll", rows, () -> rows.removeAll(0, 3));
        Due.isRefused("removeAll of nothing", rows, () -> rows.removeAll(3, 1));
        Due.isRefused("removeAll of itself", rows, () -> rows.removeAll(3, 3));
        Due.isNeedless("removeAll of others", rows, () -> rows.removeAll(0, 2));
        Due.isNeedless("removeAll of none", rows, () -> rows.removeAll(0, 4));
        Due.isNeedless("removeAll from none", rows, () -> rows.removeAll(4, 0));
    }

    private static void retainAll() {
        Twinrow rows = rowsWithParts();
        Due.lay(rows, 1, Due.NOTHING, 7, 2);
        Due.lay(rows, 2, 2, 0);
        Due.isRefused("retainAll", rows, () -> rows.retainAll(0, 3));
        Due.isRefused("retainAll: nothing is not zero", rows, () -> rows.retainAll(3, 2));
        Due.isRefused("retainAll of none", rows, () -> rows.retainAll(3, 4));
        Due.isNeedless("retainAll of more", rows, () -> rows.retainAll(3, 0));
        Due.isNeedless("retainAll in another order", rows, () -> rows.retainAll(3, 1));
        Due.isNeedless("retainAll of itself", rows, () -> rows.retainAll(3, 3));
        Due.isNeedless("retainAll in none", rows, () -> rows.retainAll(4, 0));
        Due.isNeedless("retainAll of none in none", rows, () -> rows.retainAll(4, 4));
    }

    private static void removeIf() {
        Twinrow rows = rowsWithParts();
        Due.isRefused("removeIf nothing", rows, () -> rows.removeIf(3, 0, 0));
        Due.isRefused("removeIf it is 2", rows, () -> rows.removeIf(3, 1, 2));
        Due.isRefused("removeIf below 3", rows, () -> rows.removeIf(3, 2, 3));
        Due.isNeedless("removeIf it is 0: nothing is not", rows, () -> rows.removeIf(3, 1, 0));
        Due.isNeedless("removeIf below 2: nothing is not", rows, () -> rows.removeIf(3, 2, 2));
        Due.isNeedless("removeIf in none", rows, () -> rows.removeIf(4, 0, 0));
        rows.set(3, 1, -99);
        Due.isNeedless("removeIf nothing, without", rows, () -> rows.removeIf(0, 0, 0));
        Due.isNeedless("removeIf below -99", rows, () -> rows.removeIf(0, 2, -99));
        Due.isRefused("removeIf below -98", rows, () -> rows.removeIf(0, 2, -98));
    }

    private static void clear() {
        Twinrow rows = rowsWithParts();
        rows.lay(2, 0);
        Due.isRefused("clear", rows, () -> rows.clear(0));
        Due.isRefused("clear a part", rows, () -> rows.clear(3));
        rows.part(5, 0, 2, 3);
        Due.isRefused("clear one", rows, () -> rows.clear(5));
        Due.isNeedless("clear none", rows, () -> rows.clear(4));
        Due.isNeedless("clear a row of none", rows, () -> rows.clear(2));
    }

    private static void walkChange() {
        Twinrow rows = rowsWithParts();
        Due.isRefused("walkChange alone", rows, () -> rows.walkChange(3, 0, 0));
        Due.isRefused("walkChange both ways", rows, () -> rows.walkChange(3, 1, 1));
        Due.isRefused("walkChange puts", rows, () -> rows.walkChange(0, 3, 2));
    }
}
