/** The limits that the document names ahead of its promises, a test for each. */
public final class DescriptionTest {
    public static void main(String[] args) {
        fiveHundredTwelveCalls();
        aValueIsAlsoNothing();
        refusedChangesOnlyTheCount();
        theFirstNamedExceptionIsThrown();
        exceptionsGoAheadOfRefused();
        aListAsAText();
        codeWrapsAround();
        ruleOfSum();
        ruleOfTheGreaterOne();
        ruleOfProduct();
        ruleOfNothing();
        testOfNothing();
        testOfEqual();
        testOfBelow();
        Due.end();
    }

    private static void fiveHundredTwelveCalls() {
        Twinrow rows = new Twinrow();
        for (int call = 1; call < 512; call++) {
            rows.addAll(call % 3, 0);
        }
        Due.is("the 512th call", 511, () -> rows.house(1));
    }

    private static void aValueIsAlsoNothing() {
        Twinrow rows = Due.with(0, -99, 99, 0, Due.NOTHING);
        Due.is("the least value", -99, () -> rows.at(0, 0));
        Due.is("the greatest value", 99, () -> rows.at(0, 1));
        Due.is("nothing is told as -1000", -1000, () -> rows.at(0, 3));
        Due.is("nothing is not zero", 1, () -> rows.often(0, 0));
    }

    private static void refusedChangesOnlyTheCount() {
        Twinrow rows = Limits.sample();
        Due.isRefused("refused in a full one", rows, () -> rows.add(0, 1));
        Due.isRefused("refused in an empty one", rows, () -> rows.add(1, 1));
        Due.isRefused("refused in a part", rows, () -> rows.add(3, 1));
        Due.is("refused three times", 3, () -> rows.house(1));
    }

    /** All arguments are wrong: the list, the row, the part or the place is named first. */
    private static void theFirstNamedExceptionIsThrown() {
        Twinrow rows = Limits.sample();
        Due.isOutOfBounds("lay: the row first", rows, () -> rows.lay(3, 13));
        Due.isOutOfBounds("put: the row first", rows, () -> rows.put(3, 0, 100));
        Due.isOutOfBounds("put: the place first", rows, () -> rows.put(0, 12, 100));
        Due.isOutOfBounds("part: the part first", rows, () -> rows.part(2, 0, 0, 13));
        Due.isOutOfBounds("part: the list first", rows, () -> rows.part(3, 6, 1, 0));
        Due.isOutOfBounds("set: the list first", rows, () -> rows.set(6, 0, 100));
        Due.isOutOfBounds("set: the place first", rows, () -> rows.set(3, 7, 100));
        Due.isOutOfBounds("indexOf: the list first", rows, () -> rows.indexOf(6, 100));
        Due.isOutOfBounds("lastIndexOf: the list first", rows, () -> rows.lastIndexOf(6, 100));
        Due.isOutOfBounds("has: the list first", rows, () -> rows.has(6, 100));
        Due.isOutOfBounds("often: the list first", rows, () -> rows.often(6, 100));
        Due.isOutOfBounds("walk: the list first", rows, () -> rows.walk(6, -1, 13, false));
        Due.isOutOfBounds("walkSet: the list first", rows, () -> rows.walkSet(6, -1, 4, 100, true));
        Due.isOutOfBounds("replaceAll: the list first", rows, () -> rows.replaceAll(6, 4, 100));
        Due.isOutOfBounds("replaceOld: the list first", rows, () -> rows.replaceOld(6, 100, 100));
        Due.isOutOfBounds("fill: the list first", rows, () -> rows.fill(6, 100));
        Due.isOutOfBounds("rotate: the list first", rows, () -> rows.rotate(6, 100));
    }

    /** With other arguments each of these calls would be refused; it is not counted either. */
    private static void exceptionsGoAheadOfRefused() {
        Twinrow rows = Limits.sample();
        Due.isOutOfBounds("add: the list first", rows, () -> rows.add(6, 100));
        Due.isIllegal("add ahead of -9", rows, () -> rows.add(0, 100));
        Due.isOutOfBounds("addAt: the list first", rows, () -> rows.addAt(6, -1, 100));
        Due.isIllegal("addAt ahead of -9", rows, () -> rows.addAt(0, 13, 5));
        Due.isOutOfBounds("addAll ahead of -9", rows, () -> rows.addAll(6, 0));
        Due.isOutOfBounds("remove ahead of -9", rows, () -> rows.remove(0, 12));
        Due.isOutOfBounds("removeValue: the list first", rows, () -> rows.removeValue(6, 100));
        Due.isIllegal("removeValue ahead of -9", rows, () -> rows.removeValue(0, 100));
        Due.isOutOfBounds("removeAll ahead of -9", rows, () -> rows.removeAll(0, 6));
        Due.isOutOfBounds("retainAll ahead of -9", rows, () -> rows.retainAll(0, 6));
        Due.isOutOfBounds("removeIf: the list first", rows, () -> rows.removeIf(6, 3, 100));
        Due.isIllegal("removeIf ahead of -9", rows, () -> rows.removeIf(0, 2, 100));
        Due.isOutOfBounds("clear ahead of -9", rows, () -> rows.clear(6));
        Due.isOutOfBounds("walkChange: the list first", rows, () -> rows.walkChange(6, 0, 3));
        Due.isOutOfBounds("walkChange: the place first", rows, () -> rows.walkChange(0, 12, 3));
        Due.isIllegal("walkChange ahead of -9", rows, () -> rows.walkChange(0, 0, 3));
        Due.is("none was counted", 0, () -> rows.house(1));
    }

    private static void aListAsAText() {
        Twinrow rows = Limits.sample();
        Due.is("text of a full one", "1 2 - 0 -99 99 2 5 -6 2 7 8", () -> rows.text(0));
        Due.is("text of an empty row", "", () -> rows.text(1));
        Due.is("text of an empty part", "", () -> rows.text(4));
        Due.is("text of one", "8", () -> rows.text(5));
        rows.set(5, 0, Due.NOTHING);
        Due.is("text of nothing", "-", () -> rows.text(5));
    }

    private static void codeWrapsAround() {
        int[] greatest = {99, 99, 99, 99, 99, 99, 99, 99, 99, 99, 99, 99};
        int[] least = {-99, -99, -99, -99, -99, -99, -99, -99, -99, -99, -99, -99};
        hasCode(greatest);
        hasCode(least);
        // The seventh value is the first at which the code leaves the 32 bits.
        hasCode(0, 0, 0, 0, 0, 0);
        hasCode(0, 0, 0, 0, 0, 0, 0);
    }

    private static void hasCode(int... values) {
        Twinrow rows = Due.with(1, values);
        java.math.BigInteger code = java.math.BigInteger.ONE;
        for (int value : values) {
            code = code.multiply(java.math.BigInteger.valueOf(31)).add(java.math.BigInteger.valueOf(value));
        }
        Due.is("code of " + rows.text(1), code.intValue(), () -> rows.code(1));
    }

    // ---- rules and tests

    /** What a rule tells of a value, by replaceAll() and by walkSet(). */
    private static void tells(int rule, int number, int value, int want) {
        String what = "rule " + rule + " with " + number + " of " + value;
        Twinrow rows = Due.with(0, value);
        rows.replaceAll(0, rule, number);
        Due.is(what, want, () -> rows.at(0, 0));
        rows.put(0, 0, value);
        rows.walkSet(0, 0, rule, number, false);
        Due.is(what + ", a walker", want, () -> rows.at(0, 0));
        rows.put(0, 0, value);
        rows.walkSet(0, 1, rule, number, true);
        Due.is(what + ", a walker back", want, () -> rows.at(0, 0));
    }

    private static void ruleOfSum() {
        tells(0, 1, 98, 99);
        tells(0, 1, 99, 99);
        tells(0, 99, 99, 99);
        tells(0, -1, -98, -99);
        tells(0, -1, -99, -99);
        tells(0, -99, -99, -99);
        tells(0, -99, 99, 0);
        tells(0, 0, Due.NOTHING, 0);
        tells(0, 99, Due.NOTHING, 99);
        tells(0, -99, Due.NOTHING, -99);
    }

    private static void ruleOfTheGreaterOne() {
        tells(1, 5, 4, 5);
        tells(1, 5, 5, 5);
        tells(1, 5, 6, 6);
        tells(1, -99, -99, -99);
        tells(1, 99, -99, 99);
        tells(1, -99, Due.NOTHING, 0);
        tells(1, 99, Due.NOTHING, 99);
    }

    private static void ruleOfProduct() {
        tells(2, 9, 11, 99);
        tells(2, 10, 10, 99);
        tells(2, 99, 99, 99);
        tells(2, -99, -99, 99);
        tells(2, 9, -11, -99);
        tells(2, -10, 10, -99);
        tells(2, 99, -99, -99);
        tells(2, 0, 99, 0);
        tells(2, 99, Due.NOTHING, 0);
        tells(2, -99, Due.NOTHING, 0);
    }

    private static void ruleOfNothing() {
        tells(3, 5, 5, Due.NOTHING);
        tells(3, 5, 4, 4);
        tells(3, 99, 99, Due.NOTHING);
        tells(3, -99, -99, Due.NOTHING);
        tells(3, 0, 0, Due.NOTHING);
        tells(3, 0, Due.NOTHING, Due.NOTHING);
        tells(3, 1, Due.NOTHING, 0);
        tells(3, -99, Due.NOTHING, 0);
    }

    /** A test tells yes of one value, if a list of this one alone is to become shorter. */
    private static void isYes(int test, int number, int value) {
        Twinrow rows = Due.with(0, value);
        Due.isRefused("test " + test + " with " + number + " of " + value, rows, () -> rows.removeIf(0, test, number));
    }

    private static void isNo(int test, int number, int value) {
        Twinrow rows = Due.with(0, value);
        Due.isNeedless("test " + test + " with " + number + " of " + value, rows, () -> rows.removeIf(0, test, number));
    }

    private static void testOfNothing() {
        isYes(0, 0, Due.NOTHING);
        isYes(0, 99, Due.NOTHING);
        isNo(0, 0, 0);
        isNo(0, -99, -99);
    }

    private static void testOfEqual() {
        isYes(1, -99, -99);
        isYes(1, 99, 99);
        isYes(1, 0, 0);
        isNo(1, 98, 99);
        isNo(1, 0, Due.NOTHING);
        isNo(1, -99, Due.NOTHING);
    }

    private static void testOfBelow() {
        isYes(2, 99, 98);
        isYes(2, -98, -99);
        isNo(2, 99, 99);
        isNo(2, -99, -99);
        isNo(2, 98, 99);
        isNo(2, 99, Due.NOTHING);
    }
}
