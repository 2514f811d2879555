/** Marks on a board of 64 by 64 places, found by place and by rectangle. */
public final class GridIndex {
    private static final int SIDE = 64;
    private static final int MOST_MARKS = 40;
    private static final int NONE = -1;

    // The marks stand in slots 0 to held - 1 of the three arrays, in no order:
    // with so few of them a walk over all is simpler than any kept order.
    private final int[] xs = new int[MOST_MARKS];
    private final int[] ys = new int[MOST_MARKS];
    private final int[] values = new int[MOST_MARKS];
    private int held;

    public GridIndex() {
        held = 0;
    }

    public int put(int x, int y, int value) {
        if (!isOnBoard(x, y)) {
            return NONE;
        }
        int slot = slotOf(x, y);
        if (slot == NONE) {
            if (held >= MOST_MARKS) {
                return NONE;
            }
            slot = held;
            xs[slot] = x;
            ys[slot] = y;
            held++;
        }
        values[slot] = value;
        return held;
    }

    public int remove(int x, int y) {
        int slot = slotOf(x, y);
        if (slot == NONE) {
            return NONE;
        }
        held--;
        // The last mark fills the gap, so that the slots in use stay together.
        moveMark(held, slot);
        return held;
    }

    public boolean has(int x, int y) {
        return slotOf(x, y) != NONE;
    }

    public int value(int x, int y) {
        int slot = slotOf(x, y);
        return slot == NONE ? 0 : values[slot];
    }

    public int count(int x1, int y1, int x2, int y2) {
        int found = 0;
        for (int slot = 0; slot < held; slot++) {
            if (isInRectangle(slot, x1, y1, x2, y2)) {
                found++;
            }
        }
        return found;
    }

    public int sum(int x1, int y1, int x2, int y2) {
        int total = 0;
        for (int slot = 0; slot < held; slot++) {
            if (isInRectangle(slot, x1, y1, x2, y2)) {
                total += values[slot];
            }
        }
        return total;
    }

    public int first(int x1, int y1, int x2, int y2) {
        int best = NONE;
        for (int slot = 0; slot < held; slot++) {
            if (isInRectangle(slot, x1, y1, x2, y2)) {
                // y is below SIDE, so the least number has the least x, then the least y.
                int number = placeNumber(slot);
                if (best == NONE || number < best) {
                    best = number;
                }
            }
        }
        return best;
    }

    public int nearest(int x, int y) {
        if (!isOnBoard(x, y)) {
            return NONE;
        }
        int best = NONE;
        // No two places of the board are as far apart as this.
        int bestDistance = SIDE;
        for (int slot = 0; slot < held; slot++) {
            int distance = distanceTo(slot, x, y);
            int number = placeNumber(slot);
            if (distance < bestDistance || (distance == bestDistance && number < best)) {
                best = number;
                bestDistance = distance;
            }
        }
        return best;
    }

    public int clear(int x1, int y1, int x2, int y2) {
        int before = held;
        int kept = 0;
        for (int slot = 0; slot < before; slot++) {
            if (!isInRectangle(slot, x1, y1, x2, y2)) {
                // kept is never above slot, so no mark is overwritten before it was looked at.
                moveMark(slot, kept);
                kept++;
            }
        }
        held = kept;
        return before - kept;
    }

    private static boolean isOnBoard(int x, int y) {
        return x >= 0 && x < SIDE && y >= 0 && y < SIDE;
    }

    // A place off the board needs no check of its own: no slot ever holds one.
    private int slotOf(int x, int y) {
        for (int slot = 0; slot < held; slot++) {
            if (xs[slot] == x && ys[slot] == y) {
                return slot;
            }
        }
        return NONE;
    }

    private void moveMark(int from, int to) {
        xs[to] = xs[from];
        ys[to] = ys[from];
        values[to] = values[from];
    }

    private int placeNumber(int slot) {
        return SIDE * xs[slot] + ys[slot];
    }

    private boolean isInRectangle(int slot, int x1, int y1, int x2, int y2) {
        return isBetween(xs[slot], x1, x2) && isBetween(ys[slot], y1, y2);
    }

    // Compares only: a difference of the ends could wrap around.
    private static boolean isBetween(int number, int end1, int end2) {
        if (end1 <= end2) {
            return end1 <= number && number <= end2;
        }
        return end2 <= number && number <= end1;
    }

    private int distanceTo(int slot, int x, int y) {
        int acrossX = difference(xs[slot], x);
        int acrossY = difference(ys[slot], y);
        return acrossX > acrossY ? acrossX : acrossY;
    }

    private static int difference(int a, int b) {
        return a > b ? a - b : b - a;
    }
}
