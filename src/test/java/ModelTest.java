/** Long runs of calls, ordinary and wrong ones mixed, each answer compared with that of Model. */
public final class ModelTest {
    private static final int RUNS = 2000;
    private static final int CALLS_A_RUN = 512;
    private static final int[] FAR = {Integer.MIN_VALUE, Integer.MAX_VALUE, Integer.MIN_VALUE + 1, -1001, -999, 1000};

    private long seed;

    private ModelTest(long seed) {
        this.seed = seed;
    }

    public static void main(String[] args) {
        for (int run = 0; run < RUNS; run++) {
            new ModelTest(run).compare(run);
        }
        Due.end();
    }

    private void compare(int run) {
        Twinrow rows = new Twinrow();
        Model model = new Model();
        for (int call = 0; call < CALLS_A_RUN; call++) {
            String name = call % 16 == 15 ? "digest" : Model.CALLS[below(Model.CALLS.length)];
            int a = below(4) == 0 ? below(3) : near(0, 6);
            // A part is made and a row laid by few of all arguments: these are to come about often enough.
            int b = name.equals("part") || below(8) == 0 ? near(0, 6) : argument(name);
            int c = name.equals("part") ? near(0, 4) : argument(name);
            int d = name.equals("part") ? near(0, 12) : argument(name);
            boolean isBack = below(2) == 0;
            String want = Due.told(() -> model.answer(name, a, b, c, d, isBack));
            String got = Due.told(() -> answer(rows, name, a, b, c, d, isBack));
            Due.same("run " + run + ", call " + call + ": " + name + " of " + a + ", " + b + ", " + c + ", " + d + ", " + isBack, want, got);
        }
    }

    private int argument(String name) {
        switch (below(name.equals("lay") ? 2 : 8)) {
            case 0:
                return near(0, 12);
            case 1:
                return near(0, 4);
            case 2:
                return near(-99, 99);
            case 3:
                return Due.NOTHING;
            case 4:
                return near(-2, 2);
            default:
                return near(0, 3);
        }
    }

    /** A number of the range; seldom one that is just outside, or far from it. */
    private int near(int least, int greatest) {
        int kind = below(40);
        if (kind == 0) {
            return least - 1;
        }
        if (kind == 1) {
            return greatest + 1;
        }
        if (kind == 2) {
            return FAR[below(FAR.length)];
        }
        return least + below(greatest - least + 1);
    }

    /** The next one of a sequence that is the same each time. */
    private int below(int bound) {
        seed = seed * 6364136223846793005L + 1442695040888963407L;
        return (int) ((seed >>> 33) % bound);
    }

    private static Object answer(Twinrow rows, String call, int a, int b, int c, int d, boolean isBack) {
        switch (call) {
            case "lay": return rows.lay(a, b);
            case "put": return rows.put(a, b, c);
            case "at": return rows.at(a, b);
            case "part": return rows.part(a, b, c, d);
            case "set": return rows.set(a, b, c);
            case "get": return rows.get(a, b);
            case "length": return rows.length(a);
            case "isEmpty": return rows.isEmpty(a);
            case "text": return rows.text(a);
            case "back": return rows.back(a);
            case "indexOf": return rows.indexOf(a, b);
            case "lastIndexOf": return rows.lastIndexOf(a, b);
            case "has": return rows.has(a, b);
            case "often": return rows.often(a, b);
            case "hasAll": return rows.hasAll(a, b);
            case "areApart": return rows.areApart(a, b);
            case "indexOfAll": return rows.indexOfAll(a, b);
            case "areEqual": return rows.areEqual(a, b);
            case "code": return rows.code(a);
            case "walk": return rows.walk(a, b, c, isBack);
            case "sum": return rows.sum(a);
            case "walkSet": return rows.walkSet(a, b, c, d, isBack);
            case "replaceAll": return rows.replaceAll(a, b, c);
            case "replaceOld": return rows.replaceOld(a, b, c);
            default: return answerOfRest(rows, call, a, b, c, isBack);
        }
    }

    private static Object answerOfRest(Twinrow rows, String call, int a, int b, int c, boolean isBack) {
        switch (call) {
            case "fill": return rows.fill(a, b);
            case "sort": return rows.sort(a, isBack);
            case "reverse": return rows.reverse(a);
            case "rotate": return rows.rotate(a, b);
            case "swap": return rows.swap(a, b, c);
            case "add": return rows.add(a, b);
            case "addAt": return rows.addAt(a, b, c);
            case "addAll": return rows.addAll(a, b);
            case "remove": return rows.remove(a, b);
            case "removeValue": return rows.removeValue(a, b);
            case "removeAll": return rows.removeAll(a, b);
            case "retainAll": return rows.retainAll(a, b);
            case "removeIf": return rows.removeIf(a, b, c);
            case "clear": return rows.clear(a);
            case "walkChange": return rows.walkChange(a, b, c);
            case "knock": return rows.knock();
            case "house": return rows.house(a);
            case "rowOf": return rows.rowOf(a);
            case "begin": return rows.begin(a);
            case "isSound": return rows.isSound();
            case "digest": return rows.digest();
            default: throw new AssertionError(call);
        }
    }
}
