import java.util.ArrayList;
import java.util.List;

/** The boundary cases that the document names: for each sentence that names one, a test of its own. */
public final class BoundaryTests {
    private static final int MIN = Integer.MIN_VALUE;
    private static final int MAX = Integer.MAX_VALUE;
    private static final int MOST_CALLS = 512;
    private static final int[] ENDS = {0, 63};
    private static final int[] TOO_SMALL = {-1, -2, -63, -64, -65, MIN + 1, MIN};
    private static final int[] TOO_LARGE = {64, 65, 127, 128, 4096, MAX - 1, MAX};

    private static String sentence = "";
    private static int wrong = 0;

    public static void main(String[] args) {
        limits();
        rectangles();
        newObject();
        put();
        remove();
        hasAndValue();
        countAndSum();
        first();
        nearest();
        clear();
        refusedCalls();
        if (wrong > 0) {
            System.out.println(wrong + " answers are wrong");
            System.exit(1);
        }
    }

    private static void limits() {
        test("What it is: at most 512 calls, the last of them too", BoundaryTests::lastCallIsAnswered);
        test("Terms: x and y from 0 to 63, the ends too", BoundaryTests::everyPlaceTakesAMark);
        test("Terms: a place holds no mark or one", BoundaryTests::placeHoldsOneMark);
        test("Terms: a value is an int, any int", BoundaryTests::anyIntIsAValue);
        test("Terms: at most 40 marks are held", BoundaryTests::fortyMarksAndNoMore);
        test("Terms: at the start none is held", BoundaryTests::noneAtTheStart);
    }

    private static void rectangles() {
        test("Terms: a rectangle, the ends of x included", BoundaryTests::endsOfXAreIncluded);
        test("Terms: a rectangle, the ends of y included", BoundaryTests::endsOfYAreIncluded);
        test("Terms: a rectangle, x1 above x2", BoundaryTests::x1AboveX2);
        test("Terms: a rectangle, y1 above y2", BoundaryTests::y1AboveY2);
        test("Terms: a rectangle, both above", BoundaryTests::bothAbove);
        test("Terms: a rectangle of one place", BoundaryTests::rectangleOfOnePlace);
        test("Terms: a rectangle with any ints, over the ends of the board", BoundaryTests::rectangleOverTheEnds);
        test("Terms: a rectangle with any ints, off the board", BoundaryTests::rectangleOffTheBoard);
        test("Terms: a rectangle with any ints, the least and the greatest", BoundaryTests::rectangleOfAllInts);
    }

    private static void newObject() {
        test("Promise 1: no mark is held, on no place", BoundaryTests::newHoldsNoneAnywhere);
        test("Promise 1: no mark is held, for all calls", BoundaryTests::newAnswersAsEmpty);
    }

    private static void put() {
        test("Promise 2: -1 if x is below 0", () -> putRefusesX(TOO_SMALL));
        test("Promise 2: -1 if x is above 63", () -> putRefusesX(TOO_LARGE));
        test("Promise 2: -1 if y is below 0", () -> putRefusesY(TOO_SMALL));
        test("Promise 2: -1 if y is above 63", () -> putRefusesY(TOO_LARGE));
        test("Promise 2: -1 if the place holds no mark and 40 are held", BoundaryTests::putRefusesWhenFull);
        test("Promise 2: a new value for the mark there, also if 40 are held", BoundaryTests::newValueWhenFull);
        test("Promise 2: the 40th is taken again after one has gone", BoundaryTests::putAfterFull);
        test("Promise 2: how many are held then", BoundaryTests::putAnswersHowMany);
    }

    private static void remove() {
        test("Promise 3: -1 if the place holds none", BoundaryTests::removeOfNone);
        test("Promise 3: -1 if the mark has gone already", BoundaryTests::removeTwice);
        test("Promise 3: -1 if x is out of range", BoundaryTests::removeXOutOfRange);
        test("Promise 3: -1 if y is out of range", BoundaryTests::removeYOutOfRange);
        test("Promise 3: how many are held then, from 39 to 0", BoundaryTests::removeDownToNone);
    }

    private static void hasAndValue() {
        test("Promise 4: has is false without a mark", BoundaryTests::hasWithoutAMark);
        test("Promise 4: has is true for a mark with the value 0", BoundaryTests::hasWithTheValue0);
        test("Promise 4: has is false off the board", BoundaryTests::hasOffTheBoard);
        test("Promise 5: value is 0 if there is none", BoundaryTests::valueOfNone);
        test("Promise 5: value is 0 off the board", BoundaryTests::valueOffTheBoard);
    }

    private static void countAndSum() {
        test("Promise 6: count of no mark, of all 40", BoundaryTests::countOfNoneAndAll);
        test("Promise 7: sum of no mark is 0", BoundaryTests::sumOfNone);
        test("Promise 7: sum wraps above the greatest int", BoundaryTests::sumWrapsUp);
        test("Promise 7: sum wraps below the least int", BoundaryTests::sumWrapsDown);
        test("Promise 7: sum wraps many times", BoundaryTests::sumWrapsOften);
    }

    private static void first() {
        test("Promise 8: first is -1 if there is none", BoundaryTests::firstOfNone);
        test("Promise 8: the least x, whatever y", BoundaryTests::firstByX);
        test("Promise 8: of several the least y", BoundaryTests::firstByY);
        test("Promise 8: marks outside do not count", BoundaryTests::firstInsideOnly);
        test("Promise 8: the least answer and the greatest", BoundaryTests::firstAtTheEnds);
    }

    private static void nearest() {
        test("Promise 9: nearest is -1 if no mark is held", BoundaryTests::nearestOfNone);
        test("Promise 9: nearest is -1 if x is not from 0 to 63", BoundaryTests::nearestXOutOfRange);
        test("Promise 9: nearest is -1 if y is not from 0 to 63", BoundaryTests::nearestYOutOfRange);
        test("Promise 9: the least distance and the greatest", BoundaryTests::nearestAtTheEnds);
        test("Promise 9: by the greater of the two differences", BoundaryTests::nearestByTheGreater);
        test("Promise 9: of several the least 64 * x + y", BoundaryTests::nearestOfSeveral);
    }

    private static void clear() {
        test("Promise 10: clear of none answers 0", BoundaryTests::clearOfNone);
        test("Promise 10: clear of all 40", BoundaryTests::clearOfAll);
        test("Promise 10: all in the rectangle go and no other", BoundaryTests::clearInsideOnly);
        test("Promise 10: what was cleared can be filled again", BoundaryTests::fillAfterClear);
    }

    private static void refusedCalls() {
        test("Promise 11: a refused put changes nothing", BoundaryTests::refusedPut);
        test("Promise 11: a refused remove changes nothing", BoundaryTests::refusedRemove);
        test("Promise 11: has that answers false changes nothing", BoundaryTests::refusedHas);
        test("Promise 11: a refused first changes nothing", BoundaryTests::refusedFirst);
        test("Promise 11: a refused nearest changes nothing", BoundaryTests::refusedNearest);
    }

    private static void test(String name, Runnable body) {
        sentence = name;
        try {
            body.run();
        } catch (RuntimeException thrown) {
            fault("a call threw " + thrown);
        }
    }

    private static void fault(String what) {
        wrong++;
        System.out.println(sentence + ": " + what);
    }

    /** A mark as a test thinks of it. */
    private record Mark(int x, int y, int value) {
        int number() {
            return 64 * x + y;
        }
    }

    /** A new GridIndex whose every call comes with the answer that is due. */
    private static final class Checked {
        private final GridIndex index = new GridIndex();
        private int calls = 0;

        void put(int x, int y, int value, int due) {
            answered(index.put(x, y, value), due, "put", x, y, value);
        }

        void remove(int x, int y, int due) {
            answered(index.remove(x, y), due, "remove", x, y);
        }

        void has(int x, int y, boolean due) {
            answered(index.has(x, y) ? 1 : 0, due ? 1 : 0, "has", x, y);
        }

        void value(int x, int y, int due) {
            answered(index.value(x, y), due, "value", x, y);
        }

        void count(int x1, int y1, int x2, int y2, int due) {
            answered(index.count(x1, y1, x2, y2), due, "count", x1, y1, x2, y2);
        }

        void sum(int x1, int y1, int x2, int y2, int due) {
            answered(index.sum(x1, y1, x2, y2), due, "sum", x1, y1, x2, y2);
        }

        void first(int x1, int y1, int x2, int y2, int due) {
            answered(index.first(x1, y1, x2, y2), due, "first", x1, y1, x2, y2);
        }

        void nearest(int x, int y, int due) {
            answered(index.nearest(x, y), due, "nearest", x, y);
        }

        void clear(int x1, int y1, int x2, int y2, int due) {
            answered(index.clear(x1, y1, x2, y2), due, "clear", x1, y1, x2, y2);
        }

        /** These marks are held, with their values, and no other. */
        void holds(List<Mark> marks) {
            count(MIN, MIN, MAX, MAX, marks.size());
            for (Mark mark : marks) {
                has(mark.x, mark.y, true);
                value(mark.x, mark.y, mark.value);
            }
        }

        private void answered(int got, int due, String name, int... arguments) {
            calls++;
            if (calls > MOST_CALLS) {
                // Later answers are free, so a test that asks for them is wrong itself.
                fault("the test makes more than " + MOST_CALLS + " calls");
            }
            if (got != due) {
                fault(callText(name, arguments) + " answered " + got + ", due is " + due);
            }
        }

        private static String callText(String name, int[] arguments) {
            StringBuilder text = new StringBuilder(name).append('(');
            for (int i = 0; i < arguments.length; i++) {
                text.append(i == 0 ? "" : ", ").append(arguments[i]);
            }
            return text.append(')').toString();
        }
    }

    private static Checked boardOf(List<Mark> marks) {
        Checked board = new Checked();
        int held = 0;
        for (Mark mark : marks) {
            held++;
            board.put(mark.x, mark.y, mark.value, held);
        }
        return board;
    }

    /** Marks on the four corners of the board and one in its middle. */
    private static List<Mark> fewMarks() {
        return List.of(new Mark(0, 0, 5), new Mark(0, 63, -6), new Mark(63, 0, 7), new Mark(63, 63, MIN),
            new Mark(31, 32, 0));
    }

    /** 40 marks, x from 0 to 63, y never 20 or 21, not put in the order of their numbers. */
    private static List<Mark> fortyMarks() {
        List<Mark> marks = new ArrayList<>();
        for (int i = 0; i < 20; i++) {
            marks.add(new Mark(63 - 3 * i, i, 100 + i));
            marks.add(new Mark(3 * i, 63 - i, -1000 - i));
        }
        return marks;
    }

    private static void lastCallIsAnswered() {
        Checked filled = boardOf(fortyMarks());
        while (filled.calls < MOST_CALLS - 2) {
            filled.remove(63, 0, 39);
            filled.put(63, 0, filled.calls, 40);
        }
        filled.put(62, 20, 1, -1);
        filled.count(0, 0, 63, 63, 40);
        Checked cleared = new Checked();
        while (cleared.calls < MOST_CALLS) {
            cleared.put(7, 8, 9, 1);
            cleared.clear(0, 0, 63, 63, 1);
        }
        Checked refused = new Checked();
        while (refused.calls < MOST_CALLS - 1) {
            refused.put(64, 0, 1, -1);
        }
        refused.put(63, 0, 1, 1);
    }

    private static void everyPlaceTakesAMark() {
        for (int x = 0; x <= 63; x++) {
            for (int y = 0; y <= 63; y++) {
                Checked board = new Checked();
                board.put(x, y, 9, 1);
                board.has(x, y, true);
                board.value(x, y, 9);
                board.count(x, y, x, y, 1);
                board.sum(x, y, x, y, 9);
                board.first(x, y, x, y, 64 * x + y);
                board.nearest(x, y, 64 * x + y);
                board.remove(x, y, 0);
                board.put(x, y, 9, 1);
                board.clear(x, y, x, y, 1);
            }
        }
    }

    private static void placeHoldsOneMark() {
        Checked board = new Checked();
        // Oftener than 40 times: were each a mark of its own, the last would be refused.
        for (int value = 1; value <= 50; value++) {
            board.put(63, 63, value, 1);
        }
        board.holds(List.of(new Mark(63, 63, 50)));
        board.sum(0, 0, 63, 63, 50);
        board.remove(63, 63, 0);
        board.has(63, 63, false);
        board.remove(63, 63, -1);
    }

    private static void anyIntIsAValue() {
        int[] values = {MIN, MIN + 1, -65536, -256, -1, 0, 1, 255, 65535, MAX - 1, MAX};
        Checked board = new Checked();
        for (int i = 0; i < values.length; i++) {
            board.put(i, 5, values[i], i + 1);
        }
        for (int i = 0; i < values.length; i++) {
            board.has(i, 5, true);
            board.value(i, 5, values[i]);
            board.sum(i, 5, i, 5, values[i]);
            board.first(i, 5, i, 5, 64 * i + 5);
        }
    }

    private static void fortyMarksAndNoMore() {
        // boardOf asks that each of the 40 is taken.
        Checked board = boardOf(fortyMarks());
        board.put(0, 20, 1, -1);
        board.put(63, 21, 1, -1);
        board.holds(fortyMarks());
    }

    private static void noneAtTheStart() {
        new Checked().holds(List.of());
        Checked other = boardOf(fortyMarks());
        new Checked().holds(List.of());
        other.holds(fortyMarks());
    }

    /** Which of the marks are in the rectangle, by all four calls that take one. */
    private static void inside(List<Mark> marks, List<Mark> due, int x1, int y1, int x2, int y2) {
        int sum = 0;
        int first = due.isEmpty() ? -1 : MAX;
        for (Mark mark : due) {
            sum += mark.value;
            first = Math.min(first, mark.number());
        }
        List<Mark> rest = new ArrayList<>(marks);
        rest.removeAll(due);
        Checked board = boardOf(marks);
        board.count(x1, y1, x2, y2, due.size());
        board.sum(x1, y1, x2, y2, sum);
        board.first(x1, y1, x2, y2, first);
        board.holds(marks);
        board.clear(x1, y1, x2, y2, due.size());
        board.holds(rest);
    }

    /** Marks at x = from - 1, from, to, to + 1, or the same with y, in the middle of the other. */
    private static List<Mark> aroundTheEnds(boolean byX, int from, int to) {
        List<Mark> marks = new ArrayList<>();
        for (int at : new int[] {to + 1, to, from, from - 1}) {
            marks.add(byX ? new Mark(at, 30, 1000 + at) : new Mark(30, at, 1000 + at));
        }
        return marks;
    }

    private static void endsOfXAreIncluded() {
        List<Mark> marks = aroundTheEnds(true, 10, 20);
        inside(marks, marks.subList(1, 3), 10, 25, 20, 35);
        List<Mark> ofTheBoard = List.of(new Mark(0, 30, 1), new Mark(63, 30, 2));
        inside(ofTheBoard, ofTheBoard, 0, 25, 63, 35);
        inside(ofTheBoard, List.of(), 1, 25, 62, 35);
    }

    private static void endsOfYAreIncluded() {
        List<Mark> marks = aroundTheEnds(false, 10, 20);
        inside(marks, marks.subList(1, 3), 25, 10, 35, 20);
        List<Mark> ofTheBoard = List.of(new Mark(30, 0, 1), new Mark(30, 63, 2));
        inside(ofTheBoard, ofTheBoard, 25, 0, 35, 63);
        inside(ofTheBoard, List.of(), 25, 1, 35, 62);
    }

    private static void x1AboveX2() {
        List<Mark> marks = aroundTheEnds(true, 10, 20);
        inside(marks, marks.subList(1, 3), 20, 25, 10, 35);
        inside(marks, marks.subList(1, 2), 20, 25, 19, 35);
    }

    private static void y1AboveY2() {
        List<Mark> marks = aroundTheEnds(false, 10, 20);
        inside(marks, marks.subList(1, 3), 25, 20, 35, 10);
        inside(marks, marks.subList(1, 2), 25, 20, 35, 19);
    }

    private static void bothAbove() {
        List<Mark> byX = aroundTheEnds(true, 10, 20);
        inside(byX, byX.subList(1, 3), 20, 35, 10, 25);
        List<Mark> byY = aroundTheEnds(false, 10, 20);
        inside(byY, byY.subList(1, 3), 35, 20, 25, 10);
    }

    private static void rectangleOfOnePlace() {
        List<Mark> marks = new ArrayList<>();
        for (int x = 29; x <= 31; x++) {
            for (int y = 49; y <= 51; y++) {
                marks.add(new Mark(x, y, 64 * x + y));
            }
        }
        inside(marks, List.of(new Mark(30, 50, 64 * 30 + 50)), 30, 50, 30, 50);
        inside(marks, List.of(), 28, 50, 28, 50);
        inside(marks, List.of(), 50, 30, 50, 30);
    }

    private static void rectangleOverTheEnds() {
        List<Mark> marks = fewMarks();
        inside(marks, marks.subList(0, 1), -1, -1, 1, 1);
        inside(marks, marks.subList(1, 2), -64, 62, 0, 64);
        inside(marks, marks.subList(2, 3), 63, 0, 64, -64);
        inside(marks, marks.subList(3, 4), 128, 128, 63, 63);
        inside(marks, marks, -1, 64, 64, -1);
    }

    private static void rectangleOffTheBoard() {
        List<Mark> marks = fewMarks();
        for (int[] off : new int[][] {{-1, -1}, {-64, -1}, {MIN, -1}, {64, 64}, {64, 128}, {64, MAX}}) {
            inside(marks, List.of(), off[0], 0, off[1], 63);
            inside(marks, List.of(), 0, off[0], 63, off[1]);
            inside(marks, List.of(), off[1], off[1], off[0], off[0]);
        }
        // 64 * 1 - 1 is the number of (0, 63), but (1, -1) is no place.
        inside(marks, List.of(), 1, -1, 1, -1);
    }

    private static void rectangleOfAllInts() {
        List<Mark> marks = fewMarks();
        inside(marks, marks, MIN, MIN, MAX, MAX);
        inside(marks, marks, MAX, MIN, MIN, MAX);
        inside(marks, marks, MIN, MAX, MAX, MIN);
        inside(marks, marks, MAX, MAX, MIN, MIN);
        // Half of the ints on each side: a length taken as a difference would wrap around.
        inside(marks, marks.subList(0, 2), MIN, MIN, 0, MAX);
        inside(marks, marks.subList(2, 4), MAX, MIN, 63, MAX);
        inside(marks, List.of(), MIN, MIN, MIN, MIN);
        inside(marks, List.of(), MAX, MAX, MAX, MAX);
    }

    private static void newHoldsNoneAnywhere() {
        for (int x = 0; x <= 63; x++) {
            Checked board = new Checked();
            for (int y = 0; y <= 63; y++) {
                board.has(x, y, false);
                board.value(x, y, 0);
                board.count(x, y, x, y, 0);
                board.nearest(x, y, -1);
                board.remove(x, y, -1);
            }
        }
    }

    private static void newAnswersAsEmpty() {
        Checked board = new Checked();
        board.count(MIN, MIN, MAX, MAX, 0);
        board.sum(MIN, MIN, MAX, MAX, 0);
        board.first(MIN, MIN, MAX, MAX, -1);
        board.clear(MIN, MIN, MAX, MAX, 0);
        board.put(0, 0, 0, 1);
        // An empty slot inside must not pass for a mark on (0, 0).
        Checked other = boardOf(List.of(new Mark(63, 63, 1)));
        other.has(0, 0, false);
        other.first(0, 0, 63, 63, 4095);
        other.nearest(0, 0, 4095);
    }

    private static void putRefusesX(int[] xs) {
        for (int x : xs) {
            for (int y : new int[] {0, 32, 63, x}) {
                refusedOnAnyBoard(x, y);
            }
        }
    }

    private static void putRefusesY(int[] ys) {
        for (int y : ys) {
            for (int x : new int[] {0, 31, 63}) {
                refusedOnAnyBoard(x, y);
            }
        }
    }

    /** On a board with no mark, with few and with 40, a put at the place is refused. */
    private static void refusedOnAnyBoard(int x, int y) {
        for (List<Mark> marks : List.of(List.<Mark>of(), fewMarks(), fortyMarks())) {
            Checked board = boardOf(marks);
            board.put(x, y, 77, -1);
            board.has(x, y, false);
            board.value(x, y, 0);
            board.holds(marks);
        }
    }

    private static void putRefusesWhenFull() {
        for (int y = 20; y <= 21; y++) {
            for (int x = 0; x <= 63; x++) {
                refusedWhenFull(x, y);
            }
        }
    }

    private static void refusedWhenFull(int x, int y) {
        Checked board = boardOf(fortyMarks());
        board.put(x, y, 77, -1);
        board.has(x, y, false);
        board.value(x, y, 0);
        board.holds(fortyMarks());
    }

    private static void newValueWhenFull() {
        List<Mark> marks = fortyMarks();
        Checked board = boardOf(marks);
        List<Mark> changed = new ArrayList<>();
        for (Mark mark : marks) {
            board.put(mark.x, mark.y, mark.value * 3, 40);
            changed.add(new Mark(mark.x, mark.y, mark.value * 3));
        }
        board.holds(changed);
    }

    private static void putAfterFull() {
        for (Mark gone : fortyMarks()) {
            Checked board = boardOf(fortyMarks());
            board.remove(gone.x, gone.y, 39);
            board.put(40, 20, 77, 40);
            board.put(gone.x, gone.y, 78, -1);
            List<Mark> marks = fortyMarks();
            marks.remove(gone);
            marks.add(new Mark(40, 20, 77));
            board.holds(marks);
        }
    }

    private static void putAnswersHowMany() {
        Checked board = new Checked();
        board.put(0, 0, 1, 1);
        board.put(0, 0, 1, 1);
        board.put(0, 1, 1, 2);
        board.put(0, 0, 0, 2);
        board.remove(0, 0, 1);
        board.put(1, 0, 1, 2);
        board.clear(0, 0, 63, 63, 2);
        board.put(1, 0, 1, 1);
    }

    private static void removeOfNone() {
        new Checked().remove(0, 0, -1);
        Checked few = boardOf(fewMarks());
        few.remove(0, 1, -1);
        few.remove(1, 0, -1);
        few.remove(32, 31, -1);
        few.remove(62, 63, -1);
        few.holds(fewMarks());
        Checked full = boardOf(fortyMarks());
        full.remove(0, 20, -1);
        full.remove(63, 20, -1);
        full.holds(fortyMarks());
    }

    private static void removeTwice() {
        for (Mark gone : fewMarks()) {
            Checked board = boardOf(fewMarks());
            board.remove(gone.x, gone.y, 4);
            board.remove(gone.x, gone.y, -1);
            List<Mark> rest = new ArrayList<>(fewMarks());
            rest.remove(gone);
            board.holds(rest);
        }
    }

    private static void removeXOutOfRange() {
        for (int[] outside : List.of(TOO_SMALL, TOO_LARGE)) {
            Checked board = boardOf(fewMarks());
            for (int x : outside) {
                board.remove(x, 0, -1);
                board.remove(x, 32, -1);
                board.remove(x, 63, -1);
                board.remove(x, x, -1);
            }
            board.holds(fewMarks());
        }
    }

    private static void removeYOutOfRange() {
        for (int[] outside : List.of(TOO_SMALL, TOO_LARGE)) {
            Checked board = boardOf(fewMarks());
            for (int y : outside) {
                board.remove(0, y, -1);
                board.remove(31, y, -1);
                board.remove(63, y, -1);
            }
            // 64 * x + y of these is that of a held place.
            board.remove(1, -1, -1);
            board.remove(62, 64, -1);
            board.holds(fewMarks());
        }
    }

    private static void removeDownToNone() {
        List<Mark> marks = fortyMarks();
        Checked oldestFirst = boardOf(marks);
        Checked newestFirst = boardOf(marks);
        for (int i = 0; i < 40; i++) {
            Mark old = marks.get(i);
            oldestFirst.value(old.x, old.y, old.value);
            oldestFirst.remove(old.x, old.y, 39 - i);
            Mark young = marks.get(39 - i);
            newestFirst.value(young.x, young.y, young.value);
            newestFirst.remove(young.x, young.y, 39 - i);
        }
        oldestFirst.holds(List.of());
        newestFirst.holds(List.of());
    }

    private static void hasWithoutAMark() {
        Checked board = boardOf(fewMarks());
        board.has(0, 1, false);
        board.has(63, 1, false);
        board.has(32, 31, false);
        board.remove(0, 0, 4);
        board.has(0, 0, false);
        board.clear(63, 0, 63, 63, 2);
        board.has(63, 0, false);
        board.has(63, 63, false);
        board.has(0, 63, true);
        board.has(31, 32, true);
    }

    private static void hasWithTheValue0() {
        Checked board = new Checked();
        board.put(31, 32, 0, 1);
        board.has(31, 32, true);
        board.put(0, 0, 8, 2);
        board.put(0, 0, 0, 2);
        board.has(0, 0, true);
        board.count(0, 0, 63, 63, 2);
    }

    private static void hasOffTheBoard() {
        for (int[] outside : List.of(TOO_SMALL, TOO_LARGE)) {
            Checked board = boardOf(fewMarks());
            for (int off : outside) {
                for (int end : ENDS) {
                    board.has(off, end, false);
                    board.has(end, off, false);
                }
                board.has(off, off, false);
            }
            board.has(1, -1, false);
            board.has(62, 64, false);
        }
    }

    private static void valueOfNone() {
        new Checked().value(0, 0, 0);
        Checked board = boardOf(fewMarks());
        board.value(0, 1, 0);
        board.value(1, 0, 0);
        board.value(32, 31, 0);
        board.remove(63, 63, 4);
        board.value(63, 63, 0);
        board.clear(0, 0, 0, 63, 2);
        board.value(0, 0, 0);
        board.value(0, 63, 0);
        board.value(63, 0, 7);
    }

    private static void valueOffTheBoard() {
        for (int[] outside : List.of(TOO_SMALL, TOO_LARGE)) {
            Checked board = boardOf(fewMarks());
            for (int off : outside) {
                for (int end : ENDS) {
                    board.value(off, end, 0);
                    board.value(end, off, 0);
                }
                board.value(off, off, 0);
            }
            board.value(1, -1, 0);
            board.value(62, 64, 0);
        }
    }

    private static void countOfNoneAndAll() {
        new Checked().count(0, 0, 63, 63, 0);
        Checked board = boardOf(fortyMarks());
        board.count(0, 20, 63, 21, 0);
        board.count(0, 0, 63, 63, 40);
        board.remove(63, 0, 39);
        board.count(0, 0, 63, 63, 39);
        board.count(63, 0, 63, 0, 0);
    }

    private static void sumOfNone() {
        new Checked().sum(0, 0, 63, 63, 0);
        Checked board = boardOf(fortyMarks());
        board.sum(0, 20, 63, 21, 0);
        board.clear(0, 0, 63, 63, 40);
        board.sum(0, 0, 63, 63, 0);
    }

    private static void sumWrapsUp() {
        Checked board = boardOf(List.of(new Mark(0, 0, MAX), new Mark(0, 1, 1), new Mark(0, 2, MAX)));
        board.sum(0, 0, 0, 0, MAX);
        board.sum(0, 0, 0, 1, MIN);
        board.sum(0, 0, 0, 2, -1);
    }

    private static void sumWrapsDown() {
        Checked board = boardOf(List.of(new Mark(0, 0, MIN), new Mark(0, 1, -1), new Mark(0, 2, MIN)));
        board.sum(0, 0, 0, 0, MIN);
        board.sum(0, 0, 0, 1, MAX);
        board.sum(0, 0, 0, 2, -1);
        board.remove(0, 1, 2);
        board.sum(0, 0, 0, 2, 0);
    }

    private static void sumWrapsOften() {
        Checked high = new Checked();
        Checked low = new Checked();
        for (int i = 0; i < 40; i++) {
            high.put(i, i, MAX, i + 1);
            low.put(i, i, MIN, i + 1);
        }
        // 40 times 2^31 - 1 and 40 times -2^31, both taken modulo 2^32.
        high.sum(MIN, MIN, MAX, MAX, -40);
        low.sum(MIN, MIN, MAX, MAX, 0);
        high.sum(0, 0, 38, 38, MAX - 38);
        low.sum(0, 0, 38, 38, MIN);
    }

    private static void firstOfNone() {
        new Checked().first(0, 0, 63, 63, -1);
        Checked board = boardOf(fortyMarks());
        board.first(0, 20, 63, 21, -1);
        board.first(64, 0, MAX, 63, -1);
        board.first(0, -1, 63, MIN, -1);
        board.clear(0, 0, 63, 63, 40);
        board.first(0, 0, 63, 63, -1);
    }

    private static void firstByX() {
        Checked board = boardOf(List.of(new Mark(11, 0, 1), new Mark(10, 63, 2), new Mark(12, 0, 3)));
        board.first(0, 0, 63, 63, 64 * 10 + 63);
        board.put(9, 63, 4, 4);
        board.first(0, 0, 63, 63, 64 * 9 + 63);
    }

    private static void firstByY() {
        Checked board = boardOf(List.of(new Mark(10, 31, 1), new Mark(10, 30, 2), new Mark(10, 32, 3)));
        board.first(0, 0, 63, 63, 64 * 10 + 30);
        board.put(10, 0, 4, 4);
        board.first(0, 0, 63, 63, 64 * 10);
        board.put(10, 63, 5, 5);
        board.first(10, 33, 10, 63, 64 * 10 + 63);
    }

    private static void firstInsideOnly() {
        Checked board = boardOf(List.of(new Mark(9, 30, 1), new Mark(10, 29, 2), new Mark(10, 41, 3),
            new Mark(20, 40, 4), new Mark(21, 30, 5)));
        board.first(10, 30, 20, 40, 64 * 20 + 40);
        board.first(20, 40, 10, 30, 64 * 20 + 40);
    }

    private static void firstAtTheEnds() {
        Checked board = boardOf(List.of(new Mark(63, 63, 1)));
        board.first(0, 0, 63, 63, 4095);
        board.put(0, 0, 1, 2);
        board.first(0, 0, 63, 63, 0);
        board.first(0, 1, 63, 63, 4095);
    }

    private static void nearestOfNone() {
        new Checked().nearest(0, 0, -1);
        new Checked().nearest(63, 63, -1);
        Checked removed = boardOf(List.of(new Mark(5, 5, 1)));
        removed.remove(5, 5, 0);
        removed.nearest(5, 5, -1);
        Checked cleared = boardOf(fortyMarks());
        cleared.clear(0, 0, 63, 63, 40);
        cleared.nearest(5, 5, -1);
    }

    private static void nearestXOutOfRange() {
        for (int[] outside : List.of(TOO_SMALL, TOO_LARGE)) {
            Checked board = boardOf(fewMarks());
            for (int x : outside) {
                board.nearest(x, 0, -1);
                board.nearest(x, 32, -1);
                board.nearest(x, 63, -1);
                board.nearest(x, x, -1);
                new Checked().nearest(x, 0, -1);
            }
        }
    }

    private static void nearestYOutOfRange() {
        for (int[] outside : List.of(TOO_SMALL, TOO_LARGE)) {
            Checked board = boardOf(fewMarks());
            for (int y : outside) {
                board.nearest(0, y, -1);
                board.nearest(31, y, -1);
                board.nearest(63, y, -1);
                new Checked().nearest(0, y, -1);
            }
        }
    }

    private static void nearestAtTheEnds() {
        for (int x : ENDS) {
            for (int y : ENDS) {
                Checked board = boardOf(List.of(new Mark(x, y, 1)));
                board.nearest(x, y, 64 * x + y);
                board.nearest(63 - x, 63 - y, 64 * x + y);
                board.nearest(63 - x, y, 64 * x + y);
                board.nearest(x, 63 - y, 64 * x + y);
            }
        }
        // 63 is the farthest that can be, whether in one difference or in both.
        Checked far = boardOf(List.of(new Mark(63, 63, 1), new Mark(63, 0, 2)));
        far.nearest(0, 0, 64 * 63);
        far.nearest(0, 63, 64 * 63);
        far.put(1, 63, 3, 3);
        far.nearest(0, 0, 64 + 63);
        far.put(62, 62, 4, 4);
        far.nearest(0, 0, 64 * 62 + 62);
    }

    private static void nearestByTheGreater() {
        // From (10, 10) the greater differences are 5 and 6; sum and lesser one would choose (4, 10).
        Checked byX = boardOf(List.of(new Mark(4, 10, 1), new Mark(15, 15, 2)));
        byX.nearest(10, 10, 64 * 15 + 15);
        Checked byY = boardOf(List.of(new Mark(10, 4, 1), new Mark(15, 15, 2)));
        byY.nearest(10, 10, 64 * 15 + 15);
        Checked downwards = boardOf(List.of(new Mark(5, 5, 1), new Mark(10, 16, 2), new Mark(16, 10, 3)));
        downwards.nearest(10, 10, 64 * 5 + 5);
    }

    private static void nearestOfSeveral() {
        // The whole ring at distance 2 around (30, 30): each of it goes before all that come later.
        List<Mark> ring = new ArrayList<>();
        for (int x = 28; x <= 32; x++) {
            for (int y = 28; y <= 32; y++) {
                if (Math.max(Math.abs(x - 30), Math.abs(y - 30)) == 2) {
                    ring.add(new Mark(x, y, 0));
                }
            }
        }
        Checked shrinking = boardOf(ring);
        for (int i = 0; i < ring.size(); i++) {
            shrinking.nearest(30, 30, ring.get(i).number());
            shrinking.remove(ring.get(i).x, ring.get(i).y, ring.size() - 1 - i);
        }
        Checked growing = new Checked();
        for (int i = ring.size() - 1; i >= 0; i--) {
            growing.put(ring.get(i).x, ring.get(i).y, 0, ring.size() - i);
            growing.nearest(30, 30, ring.get(i).number());
        }
    }

    private static void clearOfNone() {
        Checked empty = new Checked();
        empty.clear(0, 0, 63, 63, 0);
        empty.clear(MIN, MIN, MAX, MAX, 0);
        empty.holds(List.of());
        Checked full = boardOf(fortyMarks());
        full.clear(0, 20, 63, 21, 0);
        full.clear(64, 0, MAX, 63, 0);
        full.clear(-1, -1, -1, -1, 0);
        full.holds(fortyMarks());
    }

    private static void clearOfAll() {
        Checked board = boardOf(fortyMarks());
        board.clear(0, 0, 63, 63, 40);
        board.holds(List.of());
        for (Mark mark : fortyMarks()) {
            board.has(mark.x, mark.y, false);
        }
        board.clear(0, 0, 63, 63, 0);
    }

    private static void clearInsideOnly() {
        List<Mark> marks = fortyMarks();
        for (int x = 0; x <= 63; x++) {
            int last = x;
            List<Mark> upToX = new ArrayList<>(marks);
            upToX.removeIf(mark -> mark.x > last);
            inside(marks, upToX, 0, 0, x, 63);
            List<Mark> aboveX = new ArrayList<>(marks);
            aboveX.removeAll(upToX);
            inside(marks, aboveX, x + 1, 0, 64, 63);
        }
    }

    private static void fillAfterClear() {
        Checked board = boardOf(fortyMarks());
        board.clear(0, 0, 63, 63, 40);
        for (int i = 0; i < 40; i++) {
            board.put(i, 20, i, i + 1);
        }
        board.put(40, 20, 40, -1);
        board.clear(0, 20, 0, 20, 1);
        board.put(40, 20, 40, 40);
        board.put(41, 20, 41, -1);
        board.sum(0, 0, 63, 63, 820);
    }

    private static void refusedPut() {
        List<Mark> marks = fortyMarks();
        Checked full = boardOf(marks);
        full.put(30, 20, 77, -1);
        full.put(-1, 0, 77, -1);
        full.put(64, 0, 77, -1);
        full.put(0, -1, 77, -1);
        full.put(0, 64, 77, -1);
        full.holds(marks);
        full.remove(63, 0, 39);
        Checked few = boardOf(fewMarks());
        few.put(MIN, 0, 77, -1);
        few.put(0, MAX, 77, -1);
        few.holds(fewMarks());
        few.put(1, 1, 77, 6);
    }

    private static void refusedRemove() {
        List<Mark> marks = fortyMarks();
        Checked full = boardOf(marks);
        full.remove(30, 20, -1);
        full.remove(-1, 0, -1);
        full.remove(0, 64, -1);
        full.holds(marks);
        full.put(30, 20, 77, -1);
        Checked empty = new Checked();
        empty.remove(0, 0, -1);
        empty.remove(64, 64, -1);
        empty.holds(List.of());
        empty.put(0, 0, 1, 1);
    }

    private static void refusedHas() {
        List<Mark> marks = fortyMarks();
        Checked full = boardOf(marks);
        full.has(30, 20, false);
        full.has(-1, 64, false);
        full.holds(marks);
        Checked empty = new Checked();
        empty.has(0, 0, false);
        empty.has(64, -1, false);
        empty.holds(List.of());
        empty.put(0, 0, 1, 1);
    }

    private static void refusedFirst() {
        List<Mark> marks = fortyMarks();
        Checked full = boardOf(marks);
        full.first(0, 20, 63, 21, -1);
        full.first(64, 64, MAX, MAX, -1);
        full.holds(marks);
        Checked empty = new Checked();
        empty.first(0, 0, 63, 63, -1);
        empty.holds(List.of());
        empty.put(0, 0, 1, 1);
    }

    private static void refusedNearest() {
        List<Mark> marks = fortyMarks();
        Checked full = boardOf(marks);
        full.nearest(-1, 0, -1);
        full.nearest(0, 64, -1);
        full.nearest(MAX, MIN, -1);
        full.holds(marks);
        Checked empty = new Checked();
        empty.nearest(0, 0, -1);
        empty.nearest(64, 0, -1);
        empty.holds(List.of());
        empty.put(0, 0, 1, 1);
    }
}
