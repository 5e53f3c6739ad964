/** Counts the calls of one test program whose answer is not the one that is due. */
final class Due {
    static final int NOTHING = -1000;
    static final int REFUSED = -9;
    static final int NONE = -1;

    /** A call of the class; a lambda in a test. */
    interface Call {
        Object answer();
    }

    private static int calls = 0;
    private static int wrong = 0;

    private Due() {
    }

    /** The answer, or the exception that the call throws, as a text: the class itself, not one above it. */
    static String told(Call call) {
        try {
            return String.valueOf(call.answer());
        } catch (RuntimeException thrown) {
            return "throws " + thrown.getClass().getName();
        }
    }

    static void is(String what, Object want, Call call) {
        same(what, String.valueOf(want), told(call));
    }

    /** The call throws IndexOutOfBoundsException and changes nothing. */
    static void isOutOfBounds(String what, Twinrow rows, Call call) {
        isThrown(what, "throws java.lang.IndexOutOfBoundsException", rows, call);
    }

    /** The call throws IllegalArgumentException and changes nothing. */
    static void isIllegal(String what, Twinrow rows, Call call) {
        isThrown(what, "throws java.lang.IllegalArgumentException", rows, call);
    }

    private static void isThrown(String what, String want, Twinrow rows, Call call) {
        long before = rows.digest();
        same(what, want, told(call));
        same(what + " changes nothing", String.valueOf(before), String.valueOf(rows.digest()));
    }

    /** The call throws nothing. */
    static void isLet(String what, Call call) {
        String got = told(call);
        same(what + " is let", "", got.startsWith("throws ") ? got : "");
    }

    /** The call is refused, which is counted, and changes nothing else. */
    static void isRefused(String what, Twinrow rows, Call call) {
        leavesLists(what, REFUSED, 1, rows, call);
    }

    /** There is nothing to refuse: the call answers 0, and nothing is counted or changed. */
    static void isNeedless(String what, Twinrow rows, Call call) {
        leavesLists(what, 0, 0, rows, call);
    }

    private static void leavesLists(String what, int want, int counted, Twinrow rows, Call call) {
        String before = state(rows);
        int refusals = rows.house(1);
        is(what, want, call);
        same(what + " counts", String.valueOf(refusals + counted), String.valueOf(rows.house(1)));
        same(what + " changes no list", before, state(rows));
    }

    /** All of the object but house() 1; by few calls, as an object is used for at most 512. */
    static String state(Twinrow rows) {
        StringBuilder text = new StringBuilder();
        for (int list = 0; list < 7; list++) {
            int begin = list < 3 ? 0 : rows.begin(list);
            text.append(begin == NONE ? "gone" : rows.text(list) + "@" + rows.rowOf(list) + ":" + begin).append(", ");
        }
        return text.append(rows.house(0)).toString();
    }

    static void same(String what, String want, String got) {
        calls++;
        if (!want.equals(got)) {
            wrong++;
            System.out.println(what + " answered " + got + ", due is " + want);
        }
    }

    /** A new object whose row has these values. */
    static Twinrow with(int row, int... values) {
        Twinrow rows = new Twinrow();
        lay(rows, row, values);
        return rows;
    }

    static void lay(Twinrow rows, int row, int... values) {
        rows.lay(row, values.length);
        for (int place = 0; place < values.length; place++) {
            rows.put(row, place, values[place]);
        }
    }

    static void end() {
        System.out.println(calls + " calls, " + wrong + " wrong");
        if (wrong != 0) {
            System.exit(1);
        }
    }
}
