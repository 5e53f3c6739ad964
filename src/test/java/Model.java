import java.util.ArrayList;
import java.util.Arrays;
import java.util.Collections;
import java.util.Comparator;
import java.util.List;
import java.util.ListIterator;

/** The document once more, over the Java library's own lists of fixed length: the other side of ModelTest. */
final class Model {
    private final Integer[][] rows = new Integer[3][];
    private final List<List<Integer>> lists = new ArrayList<>(Collections.nCopies(7, null));
    private final int[] rowOf = {0, 1, 2, -1, -1, -1, -1};
    private final int[] begin = {0, 0, 0, -1, -1, -1, -1};
    private int knocks = 0;
    private int refusals = 0;

    Model() {
        for (int row = 0; row < 3; row++) {
            lay(row, 4);
        }
    }

    /** The names of the calls, in the order of the promises 2 to 46. */
    static final String[] CALLS = {
        "lay", "put", "at", "part", "set", "get", "length", "isEmpty", "text", "back", "indexOf", "lastIndexOf",
        "has", "often", "hasAll", "areApart", "indexOfAll", "areEqual", "code", "walk", "sum", "walkSet",
        "replaceAll", "replaceOld", "fill", "sort", "reverse", "rotate", "swap", "add", "addAt", "addAll", "remove",
        "removeValue", "removeAll", "retainAll", "removeIf", "clear", "walkChange", "knock", "house", "rowOf",
        "begin", "isSound", "digest"};

    Object answer(String call, int a, int b, int c, int d, boolean isBack) {
        switch (call) {
            case "lay": return lay(a, b);
            case "put": row(a); return put(lists.get(a), b, c);
            case "at": row(a); return told(list(a).get(place(list(a), b)));
            case "part": return part(a, b, c, d);
            case "set": return put(list(a), b, c);
            case "get": return told(list(a).get(place(list(a), b)));
            case "length": return list(a).size();
            case "isEmpty": return list(a).isEmpty();
            case "text": return text(list(a));
            case "back": return text(reversed(list(a)));
            case "indexOf": return list(a).indexOf(value(b));
            case "lastIndexOf": return list(a).lastIndexOf(value(b));
            case "has": return list(a).contains(value(b));
            case "often": return Collections.frequency(list(a), value(b));
            case "hasAll": return list(a).containsAll(list(b));
            case "areApart": return Collections.disjoint(list(a), list(b));
            case "indexOfAll": return Collections.indexOfSubList(list(a), list(b));
            case "areEqual": return list(a).equals(list(b));
            case "code": return list(a).hashCode();
            case "walk": return walk(list(a), b, c, isBack);
            case "sum": return sum(list(a));
            case "walkSet": return walkSet(list(a), b, c, d, isBack);
            case "replaceAll": return replaceAll(list(a), b, c);
            case "replaceOld": return Collections.replaceAll(list(a), value(b), value(c)) ? 1 : 0;
            case "fill": Collections.fill(list(a), value(b)); return list(a).size();
            case "sort": return sort(a, isBack);
            case "reverse": Collections.reverse(list(a)); return list(a).size();
            case "rotate": list(a); Collections.rotate(list(a), number(b, -99, 99)); return list(a).size();
            case "swap": return swap(list(a), b, c);
            default: return answerOfRest(call, a, b, c);
        }
    }

    private Object answerOfRest(String call, int a, int b, int c) {
        switch (call) {
            case "add": return tried(list(a), value(b), (list, value) -> list.add(value));
            case "addAt": {
                int place = number(b, 0, list(a).size());
                return tried(list(a), value(c), (list, value) -> { list.add(place, value); return true; });
            }
            case "addAll": return tried(list(a), list(b), (list, other) -> list.addAll(other));
            case "remove": return tried(list(a), place(list(a), b), (list, place) -> { list.remove((int) place); return true; });
            case "removeValue": return tried(list(a), value(b), (list, value) -> list.remove((Object) value));
            case "removeAll": return tried(list(a), list(b), (list, other) -> list.removeAll(other));
            case "retainAll": return tried(list(a), list(b), (list, other) -> list.retainAll(other));
            case "removeIf": {
                List<Integer> found = list(a);
                number(b, 0, 2);
                number(c, -99, 99);
                return tried(found, null, (list, none) -> list.removeIf(v -> isOfTest(v, b, c)));
            }
            case "clear": return tried(list(a), null, (list, none) -> { list.clear(); return false; });
            case "walkChange": {
                int place = place(list(a), b);
                return tried(list(a), number(c, 0, 2), (list, what) -> walkChange(list, place, what));
            }
            case "knock": return ++knocks;
            case "house": return house(number(a, 0, 3));
            case "rowOf": return rowOf[number(a, 0, 6)];
            case "begin": return begin[number(a, 0, 6)];
            case "isSound": return true;
            case "digest": return digest();
            default: throw new AssertionError(call);
        }
    }

    // ---- what is let

    private List<Integer> list(int list) {
        if (list < 0 || list > 6 || lists.get(list) == null) {
            throw new IndexOutOfBoundsException();
        }
        return lists.get(list);
    }

    private static int row(int row) {
        if (row < 0 || row > 2) {
            throw new IndexOutOfBoundsException();
        }
        return row;
    }

    private static int place(List<Integer> list, int place) {
        if (place < 0 || place >= list.size()) {
            throw new IndexOutOfBoundsException();
        }
        return place;
    }

    private static int number(int number, int least, int greatest) {
        if (number < least || number > greatest) {
            throw new IllegalArgumentException();
        }
        return number;
    }

    private static Integer value(int value) {
        return value == -1000 ? null : (Integer) number(value, -99, 99);
    }

    private static int told(Integer value) {
        return value == null ? -1000 : value;
    }

    // ---- rows

    private int lay(int row, int length) {
        row(row);
        number(length, 0, 12);
        rows[row] = new Integer[length];
        Arrays.fill(rows[row], 0);
        lists.set(row, Arrays.asList(rows[row]));
        int gone = 0;
        for (int part = 3; part < 7; part++) {
            if (rowOf[part] == row) {
                lists.set(part, null);
                rowOf[part] = -1;
                begin[part] = -1;
                gone++;
            }
        }
        return gone;
    }

    private int part(int part, int list, int from, int to) {
        if (part < 3 || part > 6) {
            throw new IndexOutOfBoundsException();
        }
        List<Integer> source = list(list);
        number(from, 0, source.size());
        number(to, from, source.size());
        int madeBegin = begin[list] + from;
        int madeRow = rowOf[list];
        lists.set(part, source.subList(from, to));
        begin[part] = madeBegin;
        rowOf[part] = madeRow;
        return to - from;
    }

    private static int put(List<Integer> list, int place, int value) {
        place(list, place);
        Integer put = value(value);
        return told(list.set(place, put));
    }

    // ---- lists

    private static List<Integer> reversed(List<Integer> list) {
        List<Integer> copy = new ArrayList<>(list);
        Collections.reverse(copy);
        return copy;
    }

    private static String text(List<Integer> list) {
        List<String> words = new ArrayList<>();
        for (Integer value : list) {
            words.add(value == null ? "-" : value.toString());
        }
        return String.join(" ", words);
    }

    private static String walk(List<Integer> list, int from, int many, boolean isBack) {
        number(from, 0, list.size());
        number(many, 0, 12);
        List<String> words = new ArrayList<>();
        ListIterator<Integer> walker = list.listIterator(from);
        while (words.size() < many && (isBack ? walker.hasPrevious() : walker.hasNext())) {
            int place = isBack ? walker.previousIndex() : walker.nextIndex();
            Integer value = isBack ? walker.previous() : walker.next();
            words.add(place + ":" + (value == null ? "-" : value.toString()));
        }
        return String.join(" ", words);
    }

    private static int sum(List<Integer> list) {
        int[] sum = {0};
        list.forEach(value -> sum[0] += value == null ? 0 : value);
        return sum[0];
    }

    // ---- what changes values

    private static Integer ruled(Integer value, int rule, int n) {
        int v = value == null ? 0 : value;
        if (rule == 3) {
            return v == n ? null : (Integer) v;
        }
        int result = rule == 0 ? v + n : rule == 1 ? Math.max(v, n) : v * n;
        return result > 99 ? 99 : result < -99 ? -99 : result;
    }

    private static int walkSet(List<Integer> list, int from, int rule, int number, boolean isBack) {
        number(from, 0, list.size());
        number(rule, 0, 3);
        number(number, -99, 99);
        int gave = 0;
        ListIterator<Integer> walker = list.listIterator(from);
        while (isBack ? walker.hasPrevious() : walker.hasNext()) {
            walker.set(ruled(isBack ? walker.previous() : walker.next(), rule, number));
            gave++;
        }
        return gave;
    }

    private static int replaceAll(List<Integer> list, int rule, int number) {
        number(rule, 0, 3);
        number(number, -99, 99);
        list.replaceAll(value -> ruled(value, rule, number));
        return list.size();
    }

    private int sort(int row, boolean isFalling) {
        Comparator<Integer> rising = Comparator.nullsFirst(Comparator.naturalOrder());
        lists.get(row(row)).sort(isFalling ? rising.reversed() : rising);
        return rows[row].length;
    }

    private static int swap(List<Integer> list, int one, int other) {
        place(list, one);
        place(list, other);
        int answer = told(list.get(one)) == told(list.get(other)) ? 0 : 1;
        Collections.swap(list, one, other);
        return answer;
    }

    // ---- what is refused

    private interface Change<T> {
        boolean isMade(List<Integer> list, T with);
    }

    private <T> int tried(List<Integer> list, T with, Change<T> change) {
        try {
            if (change.isMade(list, with)) {
                throw new AssertionError("a list of fixed length became another");
            }
            return 0;
        } catch (UnsupportedOperationException refused) {
            refusals++;
            return -9;
        }
    }

    private static boolean isOfTest(Integer value, int test, int n) {
        return test == 0 ? value == null : value != null && (test == 1 ? value == n : value < n);
    }

    private static boolean walkChange(List<Integer> list, int place, int what) {
        ListIterator<Integer> walker = list.listIterator(place);
        if (what == 0) {
            java.util.Iterator<Integer> alone = list.iterator();
            for (int step = 0; step <= place; step++) {
                alone.next();
            }
            alone.remove();
        } else if (what == 1) {
            walker.next();
            walker.remove();
        } else {
            walker.next();
            walker.add(0);
        }
        return true;
    }

    // ---- the whole

    private int house(int what) {
        switch (what) {
            case 0: return knocks;
            case 1: return refusals;
            case 2: return 7 - 3 - Collections.frequency(lists, null);
            default: return rows[0].length + rows[1].length + rows[2].length;
        }
    }

    private long digest() {
        List<Integer> numbers = new ArrayList<>();
        for (int what = 0; what < 4; what++) {
            numbers.add(house(what));
        }
        for (Integer[] row : rows) {
            numbers.add(row.length);
            for (Integer value : row) {
                numbers.add(told(value));
            }
        }
        for (int list = 0; list < 7; list++) {
            numbers.add(rowOf[list]);
            numbers.add(begin[list]);
            List<Integer> found = lists.get(list);
            if (found != null) {
                numbers.addAll(List.of(found.size(), found.hashCode(), sum(found)));
            }
        }
        numbers.add(1);
        long d = 7778;
        for (int number : numbers) {
            d = d * 31 + number;
        }
        return d;
    }
}
