/** One method for each promise of the document: ordinary inputs, edges, wrong inputs. */
public final class PromiseTests {
    private static final int MIN = Integer.MIN_VALUE;
    private static final int MAX = Integer.MAX_VALUE;
    private static final int[] OFF_BOARD = {-1, 64, -64, 128, MIN, MAX};

    private static int wrong = 0;

    public static void main(String[] args) {
        promise1NewObject();
        promise2Put();
        promise2PutWhenFull();
        promise2PutOffBoard();
        promise3Remove();
        promise3RemoveWrong();
        promise4Has();
        promise5Value();
        promise6Count();
        promise6CountAnyCorners();
        promise7Sum();
        promise8First();
        promise9Nearest();
        promise9NearestTies();
        promise9NearestWrong();
        promise10Clear();
        promise10ClearAndRefill();
        promise11RefusedChangesNothing();
        promise11QuestionsChangeNothing();
        objectsAreApart();
        if (wrong > 0) {
            System.out.println(wrong + " answers are wrong");
            System.exit(1);
        }
    }

    private static void due(String call, long got, long want) {
        if (got != want) {
            wrong++;
            System.out.println(call + " answered " + got + ", due is " + want);
        }
    }

    private static void due(String call, boolean got, boolean want) {
        due(call, got ? 1 : 0, want ? 1 : 0);
    }

    private static int all(GridIndex g) {
        return g.count(0, 0, 63, 63);
    }

    /** 40 marks: x from 0 to 7, y from 10 to 14, the value 64 * x + y. */
    private static GridIndex full() {
        GridIndex g = new GridIndex();
        int held = 0;
        for (int x = 0; x < 8; x++) {
            for (int y = 10; y < 15; y++) {
                held++;
                due("full: put(" + x + ", " + y + ")", g.put(x, y, 64 * x + y), held);
            }
        }
        return g;
    }

    private static void stillFull(String after, GridIndex g) {
        due(after + ": count", g.count(MIN, MIN, MAX, MAX), 40);
        int total = 0;
        for (int x = 0; x < 8; x++) {
            for (int y = 10; y < 15; y++) {
                due(after + ": value(" + x + ", " + y + ")", g.value(x, y), 64 * x + y);
                total += 64 * x + y;
            }
        }
        due(after + ": sum", g.sum(MIN, MIN, MAX, MAX), total);
    }

    private static void promise1NewObject() {
        GridIndex g = new GridIndex();
        due("new: count", g.count(MIN, MIN, MAX, MAX), 0);
        due("new: sum", g.sum(MIN, MIN, MAX, MAX), 0);
        due("new: first", g.first(MIN, MIN, MAX, MAX), -1);
        due("new: nearest", g.nearest(0, 0), -1);
        due("new: has(0, 0)", g.has(0, 0), false);
        due("new: value(0, 0)", g.value(0, 0), 0);
        due("new: remove(0, 0)", g.remove(0, 0), -1);
        due("new: clear", g.clear(MIN, MIN, MAX, MAX), 0);
        due("new: the first put", g.put(0, 0, 0), 1);
    }

    private static void promise2Put() {
        GridIndex g = new GridIndex();
        due("put(0, 0, 5)", g.put(0, 0, 5), 1);
        due("put(63, 63, 6)", g.put(63, 63, 6), 2);
        due("put(0, 63, 7)", g.put(0, 63, 7), 3);
        due("put(63, 0, 8)", g.put(63, 0, 8), 4);
        due("put(3, 4, 9)", g.put(3, 4, 9), 5);
        due("put(4, 3, 10)", g.put(4, 3, 10), 6);
        due("put(3, 4, -9) again", g.put(3, 4, -9), 6);
        due("put: value(3, 4)", g.value(3, 4), -9);
        due("put: value(4, 3)", g.value(4, 3), 10);
        due("put: value(0, 0)", g.value(0, 0), 5);
        due("put: value(63, 63)", g.value(63, 63), 6);
        due("put: value(0, 63)", g.value(0, 63), 7);
        due("put: value(63, 0)", g.value(63, 0), 8);
        due("put: count", all(g), 6);
    }

    private static void promise2PutWhenFull() {
        GridIndex g = full();
        due("full: put on a free place", g.put(50, 50, 1), -1);
        due("full: has(50, 50)", g.has(50, 50), false);
        stillFull("after a refused put", g);
        due("full: put on a held place", g.put(7, 14, -3), 40);
        due("full: value(7, 14)", g.value(7, 14), -3);
        due("full: put(0, 10)", g.put(0, 10, -4), 40);
        due("full: value(0, 10)", g.value(0, 10), -4);
        due("full: remove(3, 12)", g.remove(3, 12), 39);
        due("full: put after remove", g.put(50, 50, 1), 40);
        due("full: put beyond again", g.put(3, 12, 1), -1);
        due("full: has(3, 12)", g.has(3, 12), false);
    }

    private static void promise2PutOffBoard() {
        GridIndex g = new GridIndex();
        for (int off : OFF_BOARD) {
            due("put(" + off + ", 5)", g.put(off, 5, 1), -1);
            due("put(5, " + off + ")", g.put(5, off, 1), -1);
            due("put(" + off + ", " + off + ")", g.put(off, off, 1), -1);
        }
        due("off board: count", g.count(MIN, MIN, MAX, MAX), 0);
        // 64 * 1 - 1 and 64 * 0 + 63 are the same number, but only one is a place.
        due("put(0, 63, 2)", g.put(0, 63, 2), 1);
        due("put(1, -1, 3)", g.put(1, -1, 3), -1);
        due("put(-1, 127, 3)", g.put(-1, 127, 3), -1);
        due("value(0, 63)", g.value(0, 63), 2);
        due("count", g.count(MIN, MIN, MAX, MAX), 1);
    }

    private static void promise3Remove() {
        GridIndex g = new GridIndex();
        g.put(1, 1, 11);
        g.put(2, 2, 22);
        g.put(3, 3, 33);
        due("remove(1, 1), the oldest", g.remove(1, 1), 2);
        due("remove: has(1, 1)", g.has(1, 1), false);
        due("remove: value(1, 1)", g.value(1, 1), 0);
        due("remove: value(2, 2)", g.value(2, 2), 22);
        due("remove: value(3, 3)", g.value(3, 3), 33);
        due("remove(3, 3), the newest", g.remove(3, 3), 1);
        due("remove: value(2, 2)", g.value(2, 2), 22);
        due("remove(2, 2), the only", g.remove(2, 2), 0);
        due("remove(2, 2) again", g.remove(2, 2), -1);
        due("remove: count", all(g), 0);
        due("remove: put again", g.put(2, 2, 5), 1);
    }

    private static void promise3RemoveWrong() {
        GridIndex g = full();
        for (int off : OFF_BOARD) {
            due("remove(" + off + ", 12)", g.remove(off, 12), -1);
            due("remove(5, " + off + ")", g.remove(5, off), -1);
        }
        due("remove(12, 5), x and y changed about", g.remove(12, 5), -1);
        due("remove(8, 10)", g.remove(8, 10), -1);
        due("remove(1, 10 - 64 + 64 * 2)", g.remove(1, 74), -1);
        due("remove(2, 10 - 64)", g.remove(2, -54), -1);
        stillFull("after refused removes", g);
    }

    private static void promise4Has() {
        GridIndex g = new GridIndex();
        g.put(0, 63, 0);
        g.put(63, 0, 0);
        due("has(0, 63), the value 0", g.has(0, 63), true);
        due("has(63, 0)", g.has(63, 0), true);
        due("has(0, 0)", g.has(0, 0), false);
        due("has(63, 63)", g.has(63, 63), false);
        due("has(1, -1)", g.has(1, -1), false);
        due("has(62, 64)", g.has(62, 64), false);
        for (int off : OFF_BOARD) {
            due("has(" + off + ", 0)", g.has(off, 0), false);
            due("has(0, " + off + ")", g.has(0, off), false);
        }
    }

    private static void promise5Value() {
        GridIndex g = new GridIndex();
        g.put(0, 63, MIN);
        g.put(63, 0, MAX);
        g.put(9, 9, -1);
        due("value(0, 63)", g.value(0, 63), MIN);
        due("value(63, 0)", g.value(63, 0), MAX);
        due("value(9, 9)", g.value(9, 9), -1);
        due("value(9, 8)", g.value(9, 8), 0);
        due("value(1, -1)", g.value(1, -1), 0);
        for (int off : OFF_BOARD) {
            due("value(" + off + ", 0)", g.value(off, 0), 0);
            due("value(0, " + off + ")", g.value(0, off), 0);
        }
        g.remove(9, 9);
        due("value(9, 9) after remove", g.value(9, 9), 0);
    }

    private static void promise6Count() {
        GridIndex g = full();
        due("count of one place", g.count(3, 12, 3, 12), 1);
        due("count of one free place", g.count(8, 12, 8, 12), 0);
        due("count of a column", g.count(3, 0, 3, 63), 5);
        due("count of a row", g.count(0, 12, 63, 12), 8);
        due("count, both ends included", g.count(2, 11, 4, 13), 9);
        due("count beside", g.count(0, 0, 63, 9), 0);
        due("count above", g.count(8, 0, 63, 63), 0);
        g.remove(3, 12);
        due("count after remove", g.count(2, 11, 4, 13), 8);
    }

    private static void promise6CountAnyCorners() {
        GridIndex g = full();
        due("count, x1 above x2", g.count(4, 11, 2, 13), 9);
        due("count, y1 above y2", g.count(2, 13, 4, 11), 9);
        due("count, both above", g.count(4, 13, 2, 11), 9);
        due("count of all ints", g.count(MIN, MIN, MAX, MAX), 40);
        due("count of all ints, changed about", g.count(MAX, MAX, MIN, MIN), 40);
        due("count up to MAX", g.count(6, 13, MAX, MAX), 4);
        due("count down to MIN", g.count(1, 11, MIN, MIN), 4);
        due("count below the board", g.count(MIN, MIN, -1, MAX), 0);
        due("count above the board", g.count(64, MIN, MAX, MAX), 0);
        due("count beside the board", g.count(MIN, 64, MAX, MAX), 0);
        due("count over the lower end", g.count(-5, -5, 0, 10), 1);
        due("count of MIN alone", g.count(MIN, MIN, MIN, MIN), 0);
    }

    private static void promise7Sum() {
        GridIndex g = new GridIndex();
        g.put(10, 10, MAX);
        g.put(20, 20, 1);
        g.put(30, 30, -7);
        g.put(40, 40, MIN);
        due("sum of none", g.sum(11, 11, 19, 19), 0);
        due("sum of one", g.sum(30, 30, 30, 30), -7);
        due("sum wraps up", g.sum(10, 10, 20, 20), MIN);
        due("sum wraps down", g.sum(30, 30, 40, 40), MAX - 6);
        due("sum, corners changed about", g.sum(30, 20, 20, 30), -6);
        due("sum of all", g.sum(MAX, MIN, MIN, MAX), -7);
        due("sum off the board", g.sum(64, 64, MAX, MAX), 0);
        g.put(20, 20, 100);
        due("sum after a new value", g.sum(15, 15, 35, 35), 93);
        g.remove(20, 20);
        due("sum after remove", g.sum(15, 15, 35, 35), -7);
    }

    private static void promise8First() {
        GridIndex g = new GridIndex();
        g.put(20, 5, 1);
        g.put(10, 50, 2);
        g.put(10, 40, 3);
        g.put(10, 45, 4);
        g.put(30, 0, 5);
        g.put(63, 63, 6);
        due("first: the least x, then the least y", g.first(0, 0, 63, 63), 64 * 10 + 40);
        due("first: the least y in the rectangle", g.first(0, 41, 63, 63), 64 * 10 + 45);
        due("first: the least x goes before the least y", g.first(11, 0, 63, 63), 64 * 20 + 5);
        due("first, corners changed about", g.first(63, 50, 0, 41), 64 * 10 + 45);
        due("first of all ints", g.first(MAX, MIN, MIN, MAX), 64 * 10 + 40);
        due("first of one place", g.first(63, 63, 63, 63), 4095);
        due("first of none", g.first(31, 0, 62, 63), -1);
        due("first off the board", g.first(-1, 0, MIN, 63), -1);
        g.put(0, 0, 0);
        due("first at (0, 0)", g.first(0, 0, 63, 63), 0);
    }

    private static void promise9Nearest() {
        GridIndex g = new GridIndex();
        g.put(63, 63, 1);
        due("nearest: the only one, far off", g.nearest(0, 0), 4095);
        due("nearest: itself", g.nearest(63, 63), 4095);
        g.put(20, 20, 2);
        g.put(30, 20, 3);
        due("nearest by x", g.nearest(26, 20), 64 * 30 + 20);
        due("nearest by x, lower", g.nearest(24, 20), 64 * 20 + 20);
        g.remove(30, 20);
        g.put(20, 30, 4);
        due("nearest by y", g.nearest(20, 26), 64 * 20 + 30);
        due("nearest by y, lower", g.nearest(20, 24), 64 * 20 + 20);
    }

    private static void promise9NearestTies() {
        GridIndex g = new GridIndex();
        // (15, 15) is farther by the sum of the differences, 10 against 6, but nearer by the greater one, 5 against 6.
        g.put(15, 15, 1);
        g.put(10, 4, 2);
        due("nearest by the greater difference", g.nearest(10, 10), 64 * 15 + 15);
        g.put(15, 10, 3);
        due("nearest: of two the least number", g.nearest(10, 10), 64 * 15 + 10);
        g.put(5, 15, 4);
        due("nearest: the least x of several", g.nearest(10, 10), 64 * 5 + 15);
        g.put(10, 5, 5);
        due("nearest: x goes before y", g.nearest(10, 10), 64 * 5 + 15);
        g.put(5, 5, 6);
        due("nearest: then the least y", g.nearest(10, 10), 64 * 5 + 5);
        g.put(0, 0, 7);
        due("nearest: a lower number farther off", g.nearest(10, 10), 64 * 5 + 5);
        g.put(10, 11, 8);
        due("nearest: a higher number nearer", g.nearest(10, 10), 64 * 10 + 11);
        g.put(10, 10, 9);
        due("nearest: the place itself", g.nearest(10, 10), 64 * 10 + 10);
    }

    private static void promise9NearestWrong() {
        GridIndex g = new GridIndex();
        g.put(0, 0, 1);
        g.put(63, 63, 1);
        for (int off : OFF_BOARD) {
            due("nearest(" + off + ", 5)", g.nearest(off, 5), -1);
            due("nearest(5, " + off + ")", g.nearest(5, off), -1);
        }
        due("nearest(0, 63)", g.nearest(0, 63), 0);
        due("nearest(63, 0)", g.nearest(63, 0), 0);
        g.clear(0, 0, 63, 63);
        due("nearest after clear", g.nearest(0, 0), -1);
    }

    private static void promise10Clear() {
        GridIndex g = full();
        due("clear of none", g.clear(8, 0, 63, 63), 0);
        due("clear off the board", g.clear(64, MIN, MAX, MAX), 0);
        stillFull("after clears of none", g);
        due("clear, both ends included", g.clear(4, 13, 2, 11), 9);
        due("clear again", g.clear(2, 11, 4, 13), 0);
        due("clear: count", all(g), 31);
        for (int x = 0; x < 8; x++) {
            for (int y = 10; y < 15; y++) {
                boolean gone = x >= 2 && x <= 4 && y >= 11 && y <= 13;
                due("clear: has(" + x + ", " + y + ")", g.has(x, y), !gone);
                due("clear: value(" + x + ", " + y + ")", g.value(x, y), gone ? 0 : 64 * x + y);
            }
        }
        due("clear of one place", g.clear(0, 10, 0, 10), 1);
        due("clear of all ints", g.clear(MAX, MIN, MIN, MAX), 30);
        due("clear: count of all", g.count(MIN, MIN, MAX, MAX), 0);
        due("clear: first", g.first(MIN, MIN, MAX, MAX), -1);
    }

    private static void promise10ClearAndRefill() {
        GridIndex g = full();
        due("clear(0, 0, 63, 11)", g.clear(0, 0, 63, 11), 16);
        for (int i = 0; i < 16; i++) {
            due("put after clear", g.put(63, i, i), 25 + i);
        }
        due("put beyond after clear", g.put(62, 0, 0), -1);
        due("remove after clear", g.remove(63, 0), 39);
    }

    private static void promise11RefusedChangesNothing() {
        GridIndex g = full();
        due("refused put, full", g.put(0, 0, 5), -1);
        due("refused put, x", g.put(64, 10, 5), -1);
        due("refused put, y", g.put(0, -1, 5), -1);
        due("refused remove, none there", g.remove(0, 0), -1);
        due("refused remove, off the board", g.remove(-1, 10), -1);
        due("refused has", g.has(0, 0), false);
        due("refused first", g.first(20, 20, 30, 30), -1);
        due("refused nearest", g.nearest(0, 64), -1);
        stillFull("after refused calls", g);
        due("remove after refused calls", g.remove(0, 10), 39);
    }

    private static void promise11QuestionsChangeNothing() {
        GridIndex g = full();
        for (int i = 0; i < 20; i++) {
            g.has(i, 12);
            g.value(i, 12);
            g.count(i, 0, 12, 12);
            g.sum(i, 0, 12, 12);
            g.first(i, 0, 12, 12);
            g.nearest(i, 12);
        }
        stillFull("after questions", g);
    }

    private static void objectsAreApart() {
        GridIndex one = new GridIndex();
        GridIndex other = new GridIndex();
        one.put(1, 1, 1);
        due("the other object: count", all(other), 0);
        due("the other object: put", other.put(2, 2, 2), 1);
        due("the first object: has(2, 2)", one.has(2, 2), false);
        due("the first object: value(1, 1)", one.value(1, 1), 1);
    }
}
