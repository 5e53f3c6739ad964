import java.math.BigInteger;

/** The limits that promises 41 to 46 name, a test for each. */
public final class WholeLimitsTest {
    public static void main(String[] args) {
        knock();
        house();
        houseOfKnocks();
        houseOfRefusals();
        houseOfParts();
        houseOfPlaces();
        rowOf();
        begin();
        whereNoListIs();
        isSound();
        isSoundCountsNothing();
        digestWrapsAround();
        digestCountsNothing();
        Due.end();
    }

    private static void knock() {
        Twinrow rows = new Twinrow();
        for (int times = 1; times <= 512; times++) {
            Due.is("knock", times, rows::knock);
        }
    }

    // ---- house

    private static void house() {
        Limits.illegalOutside("house: what not 0 to 3", 0, 3, Twinrow::house);
    }

    private static void houseOfKnocks() {
        Twinrow rows = new Twinrow();
        Due.is("knocks at first", 0, () -> rows.house(0));
        for (int times = 1; times < 510; times++) {
            rows.knock();
        }
        Due.is("knocks", 509, () -> rows.house(0));
        Due.is("knocks are not refusals", 0, () -> rows.house(1));
    }

    private static void houseOfRefusals() {
        Twinrow rows = Limits.sample();
        Due.is("refusals at first", 0, () -> rows.house(1));
        rows.clear(1);
        rows.addAll(0, 4);
        Due.is("0 was told, not -9", 0, () -> rows.house(1));
        rows.clear(0);
        Due.is("-9 was told", 1, () -> rows.house(1));
        rows.lay(0, 0);
        Due.is("a new row takes no count away", 1, () -> rows.house(1));
    }

    private static void houseOfParts() {
        Twinrow rows = new Twinrow();
        for (int made = 3; made <= 6; made++) {
            int parts = made - 2;
            rows.part(made, 0, 4, 4);
            Due.is("parts", parts, () -> rows.house(2));
        }
        rows.part(6, 1, 0, 4);
        Due.is("parts, one made anew", 4, () -> rows.house(2));
        rows.lay(0, 4);
        Due.is("parts, three gone", 1, () -> rows.house(2));
        rows.lay(1, 4);
        Due.is("parts, all gone", 0, () -> rows.house(2));
    }

    private static void houseOfPlaces() {
        Twinrow rows = new Twinrow();
        rows.part(3, 0, 0, 4);
        Due.is("places at first", 12, () -> rows.house(3));
        for (int row = 0; row < 3; row++) {
            rows.lay(row, 0);
        }
        Due.is("no places", 0, () -> rows.house(3));
        for (int row = 0; row < 3; row++) {
            rows.lay(row, 12);
        }
        Due.is("all places", 36, () -> rows.house(3));
    }

    // ---- rowOf, begin

    private static void rowOf() {
        Limits.illegalOutside("rowOf: list not 0 to 6", 0, 6, Twinrow::rowOf);
    }

    private static void begin() {
        Limits.illegalOutside("begin: list not 0 to 6", 0, 6, Twinrow::begin);
        Twinrow rows = Limits.sample();
        Due.is("begin of an empty row", 0, () -> rows.begin(1));
        Due.is("begin of an empty part", 9, () -> rows.begin(4));
        Due.is("begin at the last place", 11, () -> rows.begin(5));
        rows.part(6, 0, 12, 12);
        Due.is("begin behind the last place", 12, () -> rows.begin(6));
    }

    private static void whereNoListIs() {
        Twinrow rows = Limits.sample();
        Due.is("rowOf a part that is not there", Due.NONE, () -> rows.rowOf(6));
        Due.is("begin of a part that is not there", Due.NONE, () -> rows.begin(6));
        Due.is("rowOf an empty part that is there", 0, () -> rows.rowOf(4));
        rows.lay(0, 12);
        Due.is("rowOf a part that went", Due.NONE, () -> rows.rowOf(4));
        Due.is("begin of a part that went", Due.NONE, () -> rows.begin(4));
        Due.is("rowOf the twin of the row laid anew", 0, () -> rows.rowOf(0));
    }

    // ---- isSound, digest

    private static void isSound() {
        Twinrow rows = new Twinrow();
        Due.is("isSound at first", true, rows::isSound);
        for (int length : new int[] {0, 1, 12}) {
            for (int row = 0; row < 3; row++) {
                rows.lay(row, length);
                rows.part(3 + row, row, length, length);
                rows.part(6, row, 0, length);
            }
            Due.is("isSound with " + length + " zeros", true, rows::isSound);
            for (int value : new int[] {99, -99, Due.NOTHING}) {
                rows.fill(6, value);
                Due.is("isSound with " + length + " times " + value, true, rows::isSound);
            }
        }
    }

    private static void isSoundCountsNothing() {
        Twinrow rows = Limits.sample();
        String before = Due.state(rows);
        Due.is("isSound", true, rows::isSound);
        Due.is("isSound counts nothing", 0, () -> rows.house(1));
        Due.is("isSound changes nothing", before, () -> Due.state(rows));
    }

    private static void digestWrapsAround() {
        isSummed(new Twinrow());
        isSummed(Limits.sample());
        Twinrow least = new Twinrow();
        for (int row = 0; row < 3; row++) {
            least.lay(row, 12);
            least.fill(row, Due.NOTHING);
        }
        isSummed(least);
    }

    /** The checksum in numbers without an end, cut to 64 bits at last. */
    private static void isSummed(Twinrow rows) {
        BigInteger sum = BigInteger.valueOf(7778);
        for (int what = 0; what <= 3; what++) {
            sum = with(sum, rows.house(what));
        }
        for (int row = 0; row < 3; row++) {
            sum = with(sum, rows.length(row));
            for (int place = 0; place < rows.length(row); place++) {
                sum = with(sum, rows.at(row, place));
            }
        }
        for (int list = 0; list <= 6; list++) {
            sum = with(with(sum, rows.rowOf(list)), rows.begin(list));
            if (rows.rowOf(list) != Due.NONE) {
                sum = with(with(with(sum, rows.length(list)), rows.code(list)), rows.sum(list));
            }
        }
        Due.is("digest of " + Due.state(rows), with(sum, 1).longValue(), rows::digest);
    }

    private static BigInteger with(BigInteger sum, long number) {
        return sum.multiply(BigInteger.valueOf(31)).add(BigInteger.valueOf(number));
    }

    private static void digestCountsNothing() {
        Twinrow rows = Limits.sample();
        String before = Due.state(rows);
        long digest = rows.digest();
        Due.is("digest again", digest, rows::digest);
        Due.is("digest counts nothing", 0, () -> rows.house(1));
        Due.is("digest changes nothing", before, () -> Due.state(rows));
    }
}
