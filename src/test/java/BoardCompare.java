/**
 * Long runs of mixed calls, compared with a plain board that walks over all its places.
 * The runs are the same each time: their numbers come from a fixed row.
 */
public final class BoardCompare {
    private static final int RUNS = 400;
    private static final int CALLS = 512;
    private static final int[] ODD_NUMBERS = {
        Integer.MIN_VALUE, Integer.MIN_VALUE + 1, -65, -64, -1, 64, 65, 127, Integer.MAX_VALUE - 1, Integer.MAX_VALUE
    };

    private static long row = 20261115L;
    private static int wrong = 0;

    private final boolean[][] marked = new boolean[64][64];
    private final int[][] values = new int[64][64];
    private int held = 0;

    public static void main(String[] args) {
        for (int run = 0; run < RUNS && wrong < 20; run++) {
            compare(run);
        }
        if (wrong > 0) {
            System.out.println(wrong + " answers are wrong");
            System.exit(1);
        }
    }

    private static int below(int bound) {
        row = row * 6364136223846793005L + 1442695040888963407L;
        return (int) ((row >>> 33) % bound);
    }

    /** Small sides make calls meet held places; large ones fill the board to its limit. */
    private static int coordinate(int side) {
        return below(25) == 0 ? ODD_NUMBERS[below(ODD_NUMBERS.length)] : below(side);
    }

    private static int markValue() {
        return below(4) == 0 ? ODD_NUMBERS[below(ODD_NUMBERS.length)] : below(2000) - 1000;
    }

    private static void compare(int run) {
        int[] sides = {3, 7, 12, 64};
        int side = sides[run % sides.length];
        GridIndex index = new GridIndex();
        BoardCompare board = new BoardCompare();
        for (int call = 0; call < CALLS; call++) {
            int a = coordinate(side);
            int b = coordinate(side);
            int c = coordinate(side);
            int d = coordinate(side);
            int v = markValue();
            int kind = below(16);
            // clear empties much of the board, so it comes seldom.
            if (kind == 15 && below(4) != 0) {
                kind = 0;
            }
            long got;
            long want;
            String name;
            switch (kind) {
                case 6, 7 -> { name = "remove"; got = index.remove(a, b); want = board.remove(a, b); }
                case 8 -> { name = "has"; got = index.has(a, b) ? 1 : 0; want = board.has(a, b) ? 1 : 0; }
                case 9 -> { name = "value"; got = index.value(a, b); want = board.has(a, b) ? board.values[a][b] : 0; }
                case 10 -> { name = "count"; got = index.count(a, b, c, d); want = board.walk(a, b, c, d)[0]; }
                case 11 -> { name = "sum"; got = index.sum(a, b, c, d); want = board.walk(a, b, c, d)[1]; }
                case 12 -> { name = "first"; got = index.first(a, b, c, d); want = board.walk(a, b, c, d)[2]; }
                case 13, 14 -> { name = "nearest"; got = index.nearest(a, b); want = board.nearest(a, b); }
                case 15 -> { name = "clear"; got = index.clear(a, b, c, d); want = board.clear(a, b, c, d); }
                default -> { name = "put"; got = index.put(a, b, v); want = board.put(a, b, v); }
            }
            if (got != want) {
                wrong++;
                System.out.println("run " + run + ", call " + call + ": " + name + " of " + a + ", " + b + ", " + c
                    + ", " + d + ", " + v + " answered " + got + ", due is " + want);
                return;
            }
        }
    }

    private static boolean onBoard(int x, int y) {
        return 0 <= x && x <= 63 && 0 <= y && y <= 63;
    }

    private boolean has(int x, int y) {
        return onBoard(x, y) && marked[x][y];
    }

    private int put(int x, int y, int value) {
        if (!onBoard(x, y) || (!marked[x][y] && held == 40)) {
            return -1;
        }
        if (!marked[x][y]) {
            marked[x][y] = true;
            held++;
        }
        values[x][y] = value;
        return held;
    }

    private int remove(int x, int y) {
        if (!has(x, y)) {
            return -1;
        }
        marked[x][y] = false;
        held--;
        return held;
    }

    /** How many, their sum, and the first one's number. */
    private int[] walk(int x1, int y1, int x2, int y2) {
        int[] answer = {0, 0, -1};
        for (int x = Math.max(0, Math.min(x1, x2)); x <= Math.min(63, Math.max(x1, x2)); x++) {
            for (int y = Math.max(0, Math.min(y1, y2)); y <= Math.min(63, Math.max(y1, y2)); y++) {
                if (marked[x][y]) {
                    answer[0]++;
                    answer[1] += values[x][y];
                    if (answer[2] == -1) {
                        answer[2] = 64 * x + y;
                    }
                }
            }
        }
        return answer;
    }

    /** Looks at squares of growing size around the place: the first mark of the first that holds one. */
    private int nearest(int x, int y) {
        if (!onBoard(x, y)) {
            return -1;
        }
        for (int far = 0; far < 64; far++) {
            int number = walk(x - far, y - far, x + far, y + far)[2];
            if (number != -1) {
                return number;
            }
        }
        return -1;
    }

    private int clear(int x1, int y1, int x2, int y2) {
        int taken = 0;
        for (int x = 0; x < 64; x++) {
            for (int y = 0; y < 64; y++) {
                if (marked[x][y] && inside(x, x1, x2) && inside(y, y1, y2)) {
                    marked[x][y] = false;
                    taken++;
                }
            }
        }
        held -= taken;
        return taken;
    }

    private static boolean inside(int n, int a, int b) {
        return Math.min(a, b) <= n && n <= Math.max(a, b);
    }
}
