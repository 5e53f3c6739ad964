/** Three rows of values; each has a twin, a list that is the row itself, of which parts can be made. */
public final class Twinrow {
    private static final int NONE = -1;
    private static final int REFUSED = -9;
    private static final int NOTHING = -1000;
    private static final int LEAST_NUMBER = -99;
    private static final int GREATEST_NUMBER = 99;
    private static final int ROWS = 3;
    private static final int LISTS = 7;
    private static final int FIRST_LENGTH = 4;
    private static final int GREATEST_LENGTH = 12;
    private static final int LAST_RULE = 3;
    private static final int LAST_TEST = 2;
    private static final int LAST_WALKER = 2;
    private static final int LAST_HOUSE = 3;
    private static final int FIRST_CODE = 1;
    private static final int FIRST_DIGEST = 7778;
    private static final int FACTOR = 31;

    /** The twins, then the parts; null for a part that is not there. */
    private final RowList[] lists = new RowList[LISTS];
    /** Holds the values of the list of our own that isSound() compares with; kept, so that no call makes one. */
    private final int[] spare = new int[GREATEST_LENGTH];
    private int knocks = 0;
    private int refusals = 0;

    public Twinrow() {
        for (int row = 0; row < ROWS && row < lists.length; row++) {
            lists[row] = new RowList(row, new int[GREATEST_LENGTH], 0, FIRST_LENGTH);
        }
    }

    /** A list: so many places of a row, from one of them on. It holds no values, the row does. */
    private static final class RowList {
        final int row;
        final int[] values;
        final int begin;
        final int length;

        RowList(int row, int[] values, int begin, int length) {
            this.row = row;
            this.values = values;
            this.begin = begin;
            this.length = length;
        }

        boolean isPlace(int place) {
            return place >= 0 && place < length;
        }

        int read(int place) {
            int spot = begin + place;
            return spot >= 0 && spot < values.length ? values[spot] : NOTHING;
        }

        /** Gives back what stood there. */
        int write(int place, int value) {
            int old = read(place);
            int spot = begin + place;
            if (spot >= 0 && spot < values.length) {
                values[spot] = value;
            }
            return old;
        }

        void exchange(int one, int other) {
            write(other, write(one, read(other)));
        }

        /** From the row's own places, so that the piece does not depend on this list from then on. */
        RowList pieceOf(int from, int to) {
            return new RowList(row, values, begin + from, to - from);
        }
    }

    // ---- rows

    public int lay(int row, int length) throws IndexOutOfBoundsException, IllegalArgumentException {
        RowList old = twinAt(row);
        checkNumber(length, 0, GREATEST_LENGTH);
        RowList laid = new RowList(row, old.values, 0, length);
        writeAll(laid, 0);
        lists[row] = laid;
        return dropPartsOf(row);
    }

    public int put(int row, int place, int value) throws IndexOutOfBoundsException, IllegalArgumentException {
        RowList twin = twinAt(row);
        checkPlace(twin, place);
        checkValue(value);
        return twin.write(place, value);
    }

    public int at(int row, int place) throws IndexOutOfBoundsException {
        RowList twin = twinAt(row);
        checkPlace(twin, place);
        return twin.read(place);
    }

    public int part(int part, int list, int from, int to) throws IndexOutOfBoundsException, IllegalArgumentException {
        checkPart(part);
        RowList source = listAt(list);
        checkNumber(to, 0, source.length);
        checkNumber(from, 0, to);
        RowList made = source.pieceOf(from, to);
        lists[part] = made;
        return made.length;
    }

    // ---- lists

    public int set(int list, int place, int value) throws IndexOutOfBoundsException, IllegalArgumentException {
        RowList found = listAt(list);
        checkPlace(found, place);
        checkValue(value);
        return found.write(place, value);
    }

    public int get(int list, int place) throws IndexOutOfBoundsException {
        RowList found = listAt(list);
        checkPlace(found, place);
        return found.read(place);
    }

    public int length(int list) throws IndexOutOfBoundsException {
        return listAt(list).length;
    }

    public boolean isEmpty(int list) throws IndexOutOfBoundsException {
        return listAt(list).length == 0;
    }

    public String text(int list) throws IndexOutOfBoundsException {
        RowList found = listAt(list);
        return textOf(found, 0, found.length, false, false);
    }

    public String back(int list) throws IndexOutOfBoundsException {
        RowList found = listAt(list);
        return textOf(found, found.length, found.length, true, false);
    }

    public int indexOf(int list, int value) throws IndexOutOfBoundsException, IllegalArgumentException {
        RowList found = listAt(list);
        checkValue(value);
        return firstPlace(found, value);
    }

    public int lastIndexOf(int list, int value) throws IndexOutOfBoundsException, IllegalArgumentException {
        RowList found = listAt(list);
        checkValue(value);
        return lastPlace(found, value);
    }

    public boolean has(int list, int value) throws IndexOutOfBoundsException, IllegalArgumentException {
        RowList found = listAt(list);
        checkValue(value);
        return stands(found, value);
    }

    public int often(int list, int value) throws IndexOutOfBoundsException, IllegalArgumentException {
        RowList found = listAt(list);
        checkValue(value);
        int times = 0;
        for (int place = 0; place < found.length; place++) {
            times += found.read(place) == value ? 1 : 0;
        }
        return times;
    }

    public boolean hasAll(int list, int other) throws IndexOutOfBoundsException {
        RowList found = listAt(list);
        return !hasOneThatStands(listAt(other), found, false);
    }

    public boolean areApart(int list, int other) throws IndexOutOfBoundsException {
        RowList found = listAt(list);
        return !hasOneThatStands(found, listAt(other), true);
    }

    public int indexOfAll(int list, int other) throws IndexOutOfBoundsException {
        RowList found = listAt(list);
        RowList sought = listAt(other);
        for (int place = 0; place <= found.length - sought.length; place++) {
            if (hasAllFrom(found, place, sought)) {
                return place;
            }
        }
        return NONE;
    }

    public boolean areEqual(int list, int other) throws IndexOutOfBoundsException {
        RowList found = listAt(list);
        return areSame(found, listAt(other));
    }

    public int code(int list) throws IndexOutOfBoundsException {
        RowList found = listAt(list);
        return codeOf(found, 0, found.length);
    }

    public String walk(int list, int from, int many, boolean isBack)
            throws IndexOutOfBoundsException, IllegalArgumentException {
        RowList found = listAt(list);
        checkNumber(from, 0, found.length);
        checkNumber(many, 0, GREATEST_LENGTH);
        int steps = Math.min(many, stepsLeft(found, from, isBack));
        return textOf(found, from, steps, isBack, true);
    }

    public int sum(int list) throws IndexOutOfBoundsException {
        RowList found = listAt(list);
        int total = 0;
        for (int place = 0; place < found.length; place++) {
            total += numberOf(found.read(place));
        }
        return total;
    }

    // ---- what changes values

    public int walkSet(int list, int from, int rule, int number, boolean isBack)
            throws IndexOutOfBoundsException, IllegalArgumentException {
        RowList found = listAt(list);
        checkNumber(from, 0, found.length);
        checkRule(rule, number);
        return writeRuled(found, from, rule, number, isBack);
    }

    public int replaceAll(int list, int rule, int number) throws IndexOutOfBoundsException, IllegalArgumentException {
        RowList found = listAt(list);
        checkRule(rule, number);
        return writeRuled(found, 0, rule, number, false);
    }

    public int replaceOld(int list, int old, int value) throws IndexOutOfBoundsException, IllegalArgumentException {
        RowList found = listAt(list);
        checkValue(old);
        checkValue(value);
        int answer = 0;
        for (int place = 0; place < found.length; place++) {
            if (found.read(place) == old) {
                found.write(place, value);
                answer = 1;
            }
        }
        return answer;
    }

    public int fill(int list, int value) throws IndexOutOfBoundsException, IllegalArgumentException {
        RowList found = listAt(list);
        checkValue(value);
        writeAll(found, value);
        return found.length;
    }

    public int sort(int row, boolean isFalling) throws IndexOutOfBoundsException {
        RowList twin = twinAt(row);
        for (int end = 1; end < twin.length; end++) {
            sink(twin, end, isFalling);
        }
        return twin.length;
    }

    public int reverse(int list) throws IndexOutOfBoundsException {
        RowList found = listAt(list);
        turn(found, 0, found.length);
        return found.length;
    }

    public int rotate(int list, int by) throws IndexOutOfBoundsException, IllegalArgumentException {
        RowList found = listAt(list);
        checkNumber(by, LEAST_NUMBER, GREATEST_NUMBER);
        if (found.length > 0) {
            // To turn the whole and then each of its two pieces shifts it without a second row.
            int shift = Math.floorMod(by, found.length);
            turn(found, 0, found.length);
            turn(found, 0, shift);
            turn(found, shift, found.length);
        }
        return found.length;
    }

    public int swap(int list, int one, int other) throws IndexOutOfBoundsException {
        RowList found = listAt(list);
        checkPlace(found, one);
        checkPlace(found, other);
        int answer = found.read(one) == found.read(other) ? 0 : 1;
        found.exchange(one, other);
        return answer;
    }

    // ---- what is refused

    public int add(int list, int value) throws IndexOutOfBoundsException, IllegalArgumentException {
        listAt(list);
        checkValue(value);
        return refuseIf(true);
    }

    public int addAt(int list, int place, int value) throws IndexOutOfBoundsException, IllegalArgumentException {
        RowList found = listAt(list);
        checkNumber(place, 0, found.length);
        checkValue(value);
        return refuseIf(true);
    }

    public int addAll(int list, int other) throws IndexOutOfBoundsException {
        listAt(list);
        return refuseIf(listAt(other).length > 0);
    }

    public int remove(int list, int place) throws IndexOutOfBoundsException {
        RowList found = listAt(list);
        checkPlace(found, place);
        return refuseIf(true);
    }

    public int removeValue(int list, int value) throws IndexOutOfBoundsException, IllegalArgumentException {
        RowList found = listAt(list);
        checkValue(value);
        return refuseIf(stands(found, value));
    }

    public int removeAll(int list, int other) throws IndexOutOfBoundsException {
        RowList found = listAt(list);
        return refuseIf(hasOneThatStands(found, listAt(other), true));
    }

    public int retainAll(int list, int other) throws IndexOutOfBoundsException {
        RowList found = listAt(list);
        return refuseIf(hasOneThatStands(found, listAt(other), false));
    }

    public int removeIf(int list, int test, int number) throws IndexOutOfBoundsException, IllegalArgumentException {
        RowList found = listAt(list);
        checkNumber(test, 0, LAST_TEST);
        checkNumber(number, LEAST_NUMBER, GREATEST_NUMBER);
        return refuseIf(hasOneOfTest(found, test, number));
    }

    public int clear(int list) throws IndexOutOfBoundsException {
        return refuseIf(listAt(list).length > 0);
    }

    public int walkChange(int list, int place, int what) throws IndexOutOfBoundsException, IllegalArgumentException {
        RowList found = listAt(list);
        checkPlace(found, place);
        checkNumber(what, 0, LAST_WALKER);
        return refuseIf(true);
    }

    // ---- the whole

    public int knock() {
        knocks++;
        return knocks;
    }

    public int house(int what) throws IllegalArgumentException {
        checkNumber(what, 0, LAST_HOUSE);
        switch (what) {
            case 0:
                return knocks;
            case 1:
                return refusals;
            case 2:
                return partsThere();
            default:
                return placesOfRows();
        }
    }

    public int rowOf(int list) throws IllegalArgumentException {
        checkNumber(list, 0, LISTS - 1);
        RowList found = listOrNull(list);
        return found == null ? NONE : found.row;
    }

    public int begin(int list) throws IllegalArgumentException {
        checkNumber(list, 0, LISTS - 1);
        RowList found = listOrNull(list);
        return found == null ? NONE : found.begin;
    }

    public boolean isSound() {
        for (int list = 0; list < LISTS; list++) {
            RowList found = listOrNull(list);
            if (found != null && !isSoundList(found)) {
                return false;
            }
        }
        return true;
    }

    public long digest() {
        long checksum = FIRST_DIGEST;
        for (int what = 0; what <= LAST_HOUSE; what++) {
            checksum = mixed(checksum, house(what));
        }
        for (int row = 0; row < ROWS; row++) {
            checksum = mixedWithRow(checksum, row);
        }
        for (int list = 0; list < LISTS; list++) {
            checksum = mixedWithList(checksum, list);
        }
        return mixed(checksum, isSound() ? 1 : 0);
    }

    // ---- lists by their numbers

    private RowList listOrNull(int list) {
        return list >= 0 && list < lists.length ? lists[list] : null;
    }

    private RowList listAt(int list) throws IndexOutOfBoundsException {
        RowList found = listOrNull(list);
        if (found == null) {
            throw new IndexOutOfBoundsException("there is no such list");
        }
        return found;
    }

    private RowList twinAt(int row) throws IndexOutOfBoundsException {
        RowList found = row < ROWS ? listOrNull(row) : null;
        if (found == null) {
            throw new IndexOutOfBoundsException("there is no such row");
        }
        return found;
    }

    private int dropPartsOf(int row) {
        int gone = 0;
        for (int part = ROWS; part < lists.length; part++) {
            RowList found = lists[part];
            if (found != null && found.row == row) {
                lists[part] = null;
                gone++;
            }
        }
        return gone;
    }

    private int partsThere() {
        int there = 0;
        for (int part = ROWS; part < LISTS; part++) {
            there += listOrNull(part) == null ? 0 : 1;
        }
        return there;
    }

    private int placesOfRows() {
        int places = 0;
        for (int row = 0; row < ROWS; row++) {
            places += twinAt(row).length;
        }
        return places;
    }

    // ---- what is looked at before a call is let

    private static void checkPart(int part) throws IndexOutOfBoundsException {
        if (part < ROWS || part >= LISTS) {
            throw new IndexOutOfBoundsException("there is no such part");
        }
    }

    private static void checkPlace(RowList list, int place) throws IndexOutOfBoundsException {
        if (!list.isPlace(place)) {
            throw new IndexOutOfBoundsException("there is no such place");
        }
    }

    private static void checkNumber(int number, int least, int greatest) throws IllegalArgumentException {
        if (number < least || number > greatest) {
            throw new IllegalArgumentException("the number is not let");
        }
    }

    private static void checkValue(int value) throws IllegalArgumentException {
        if (value != NOTHING) {
            checkNumber(value, LEAST_NUMBER, GREATEST_NUMBER);
        }
    }

    private static void checkRule(int rule, int number) throws IllegalArgumentException {
        checkNumber(rule, 0, LAST_RULE);
        checkNumber(number, LEAST_NUMBER, GREATEST_NUMBER);
    }

    /** Nothing makes a list longer or shorter: a call that would do so is only counted. */
    private int refuseIf(boolean wouldChange) {
        if (!wouldChange) {
            return 0;
        }
        refusals++;
        return REFUSED;
    }

    // ---- going through a list

    private static int stepsLeft(RowList list, int from, boolean isBack) {
        return isBack ? from : list.length - from;
    }

    /** The place of what a walker gives after so many steps from ahead of a place. */
    private static int placeAfter(int from, int steps, boolean isBack) {
        return isBack ? from - 1 - steps : from + steps;
    }

    private static String textOf(RowList list, int from, int steps, boolean isBack, boolean hasPlaces) {
        StringBuilder text = new StringBuilder();
        for (int step = 0; step < steps; step++) {
            int place = placeAfter(from, step, isBack);
            if (step > 0) {
                text.append(' ');
            }
            if (hasPlaces) {
                text.append(place);
                text.append(':');
            }
            appendValue(text, list.read(place));
        }
        return text.toString();
    }

    private static void appendValue(StringBuilder text, int value) {
        if (value == NOTHING) {
            text.append('-');
        } else {
            text.append(value);
        }
    }

    private static int numberOf(int value) {
        return value == NOTHING ? 0 : value;
    }

    private static int codeOf(RowList list, int from, int to) {
        int code = FIRST_CODE;
        for (int place = from; place < to; place++) {
            code = FACTOR * code + numberOf(list.read(place));
        }
        return code;
    }

    // ---- searching and comparing

    private static int firstPlace(RowList list, int value) {
        for (int place = 0; place < list.length; place++) {
            if (list.read(place) == value) {
                return place;
            }
        }
        return NONE;
    }

    private static int lastPlace(RowList list, int value) {
        for (int place = list.length - 1; place >= 0; place--) {
            if (list.read(place) == value) {
                return place;
            }
        }
        return NONE;
    }

    private static boolean stands(RowList list, int value) {
        return firstPlace(list, value) != NONE;
    }

    /** Whether a list has a value that stands in the other one (or, if so asked, one that does not). */
    private static boolean hasOneThatStands(RowList list, RowList other, boolean isToStand) {
        for (int place = 0; place < list.length; place++) {
            if (stands(other, list.read(place)) == isToStand) {
                return true;
            }
        }
        return false;
    }

    private static boolean hasAllFrom(RowList list, int from, RowList sought) {
        for (int place = 0; place < sought.length; place++) {
            if (list.read(from + place) != sought.read(place)) {
                return false;
            }
        }
        return true;
    }

    private static boolean areSame(RowList list, RowList other) {
        return list.length == other.length && hasAllFrom(list, 0, other);
    }

    private static boolean hasOneOfTest(RowList list, int test, int number) {
        for (int place = 0; place < list.length; place++) {
            if (isOfTest(list.read(place), test, number)) {
                return true;
            }
        }
        return false;
    }

    private static boolean isOfTest(int value, int test, int number) {
        switch (test) {
            case 0:
                return value == NOTHING;
            case 1:
                return value == number;
            default:
                return value != NOTHING && value < number;
        }
    }

    // ---- changing values

    private static void writeAll(RowList list, int value) {
        for (int place = 0; place < list.length; place++) {
            list.write(place, value);
        }
    }

    private static int writeRuled(RowList list, int from, int rule, int number, boolean isBack) {
        int steps = stepsLeft(list, from, isBack);
        for (int step = 0; step < steps; step++) {
            int place = placeAfter(from, step, isBack);
            list.write(place, ruled(list.read(place), rule, number));
        }
        return steps;
    }

    private static int ruled(int value, int rule, int number) {
        int old = numberOf(value);
        switch (rule) {
            case 0:
                return withinNumbers(old + number);
            case 1:
                return Math.max(old, number);
            case 2:
                return withinNumbers(old * number);
            default:
                return old == number ? NOTHING : old;
        }
    }

    private static int withinNumbers(int number) {
        return Math.max(LEAST_NUMBER, Math.min(GREATEST_NUMBER, number));
    }

    /** Brings the last one of the places up to an end, those ahead of it sorted, to where it belongs. */
    private static void sink(RowList list, int end, boolean isFalling) {
        for (int place = end; place > 0; place--) {
            // NOTHING is told as a number below all others, so it needs no order of its own.
            int order = Integer.compare(list.read(place), list.read(place - 1));
            if (isFalling ? order <= 0 : order >= 0) {
                return;
            }
            list.exchange(place, place - 1);
        }
    }

    private static void turn(RowList list, int from, int to) {
        int last = to - 1;
        for (int first = from; first < last; first++) {
            list.exchange(first, last);
            last--;
        }
    }

    // ---- the whole: whether it is sound, its checksum

    /** That what would change a length is refused is not tried: there is no code here that could do it. */
    private boolean isSoundList(RowList list) {
        RowList twin = listOrNull(list.row);
        return twin != null
                && isInRow(list, twin)
                && isEqualToOwn(list)
                && isSameBothWays(list)
                && areFirstsAndLasts(list);
    }

    private static boolean isInRow(RowList list, RowList twin) {
        if (list.begin + list.length > twin.length) {
            return false;
        }
        for (int place = 0; place < list.length; place++) {
            if (list.read(place) != twin.read(list.begin + place)) {
                return false;
            }
        }
        return codeOf(list, 0, list.length) == codeOf(twin, list.begin, list.begin + list.length);
    }

    private boolean isEqualToOwn(RowList list) {
        RowList own = new RowList(NONE, spare, 0, list.length);
        for (int place = 0; place < list.length; place++) {
            own.write(place, list.read(place));
        }
        return areSame(list, own) && areSame(own, list);
    }

    private static boolean isSameBothWays(RowList list) {
        for (int step = 0; step < list.length; step++) {
            int there = placeAfter(0, step, false);
            int back = placeAfter(list.length, list.length - 1 - step, true);
            if (list.read(there) != list.read(back)) {
                return false;
            }
        }
        return true;
    }

    private static boolean areFirstsAndLasts(RowList list) {
        for (int place = 0; place < list.length; place++) {
            int value = list.read(place);
            int first = firstPlace(list, value);
            int last = lastPlace(list, value);
            if (!list.isPlace(first) || first > place || list.read(first) != value
                    || !list.isPlace(last) || last < place || list.read(last) != value) {
                return false;
            }
        }
        return true;
    }

    private static long mixed(long checksum, long number) {
        return checksum * FACTOR + number;
    }

    private long mixedWithRow(long before, int row) {
        RowList twin = twinAt(row);
        long checksum = mixed(before, twin.length);
        for (int place = 0; place < twin.length; place++) {
            checksum = mixed(checksum, twin.read(place));
        }
        return checksum;
    }

    private long mixedWithList(long before, int list) {
        long checksum = mixed(mixed(before, rowOf(list)), begin(list));
        if (listOrNull(list) != null) {
            checksum = mixed(checksum, length(list));
            checksum = mixed(checksum, code(list));
            checksum = mixed(checksum, sum(list));
        }
        return checksum;
    }
}
