/** Promises 42 to 49: walking, distances, and other trees of the fixed walls. */
public final class OtherPromiseTest extends Promises {
    private static void walked(String what, int[] walk, int toX, int toY) {
        is("42: " + what, x.walk(walk[0], walk[1], walk[2], walk[3]), 64 * toX + toY);
    }

    private static void promise42() {
        fresh();
        walked("freely", new int[] {30, 30, 8, -8}, 38, 22);
        walked("freely", new int[] {30, 30, -8, 8}, 22, 38);
        walked("not at all", new int[] {30, 30, 0, 0}, 30, 30);
        walked("along the left edge", new int[] {0, 5, -1, 1}, 0, 6);
        walked("along the lower edge", new int[] {5, 0, 1, -1}, 6, 0);
        walked("along the right edge", new int[] {62, 5, 2, 1}, 62, 6);
        walked("along the upper edge", new int[] {5, 63, -2, 1}, 3, 63);
        walked("into a corner", new int[] {63, 0, 3, -3}, 63, 0);
        walked("up to the edge", new int[] {60, 3, 3, -3}, 63, 0);
        int[][] bad = {{64, 0, 0, 0}, {-1, 0, 0, 0}, {0, 64, 0, 0}, {0, -1, 0, 0}, {0, 0, 9, 0},
            {0, 0, -9, 0}, {0, 0, 0, 9}, {0, 0, 0, -9}, {0, 0, LOW, 0}, {0, 0, 0, HIGH}};
        for (int[] b : bad) {
            is("42: bad value", x.walk(b[0], b[1], b[2], b[3]), -2);
        }
        x.addWall(20, 10, 20, 30, 0, 0);
        walked("slides up along the wall", new int[] {18, 20, 3, 3}, 18, 23);
        walked("onto the wall is blocked", new int[] {18, 20, 2, 1}, 18, 21);
        walked("before the wall", new int[] {18, 20, 1, 1}, 19, 21);
        walked("off the wall", new int[] {20, 20, 3, 1}, 23, 21);
        walked("along the wall", new int[] {20, 20, 0, 5}, 20, 25);
        walked("straight at the wall", new int[] {18, 20, 3, 0}, 18, 20);
        walked("past its end", new int[] {18, 31, 4, 1}, 22, 32);
        walked("up, not up and aside", new int[] {19, 20, 3, 3}, 19, 23);
        x.addWall(10, 30, 20, 30, 0, 1);
        walked("caught in the corner", new int[] {19, 29, 1, 1}, 19, 29);
        walked("right, not right and up", new int[] {14, 29, 3, 1}, 17, 29);
        walked("x before y", new int[] {17, 29, 1, 1}, 18, 29);
        x.setKind(0, 2);
        walked("one-way from the front", new int[] {18, 20, 3, 3}, 18, 23);
        walked("one-way from behind", new int[] {22, 20, -3, 3}, 19, 23);
        x.setKind(0, 1);
        walked("through glass", new int[] {18, 20, 3, 3}, 21, 23);
    }

    private static void wandered(int[] w, int toX, int toY) {
        is("43: state " + w[2] + ", " + w[3] + " steps", x.wander(w[0], w[1], w[2], w[3]),
                64 * toX + toY);
    }

    private static void promise43() {
        fresh();
        // the first moves are, for 0: (-3, 3), (3, 1), (2, -2); for 1: (0, 1), (2, -2), (3, 3)
        wandered(new int[] {30, 30, 0, 1}, 27, 33);
        wandered(new int[] {30, 30, 0, 2}, 30, 34);
        wandered(new int[] {30, 30, 0, 3}, 32, 32);
        wandered(new int[] {30, 30, 1, 1}, 30, 31);
        wandered(new int[] {30, 30, 1, 2}, 32, 29);
        wandered(new int[] {30, 30, 1, 3}, 35, 32);
        // for the highest state: (1, 3), (3, 3), (2, -1)
        wandered(new int[] {30, 30, HIGH, 3}, 36, 35);
        wandered(new int[] {60, 61, HIGH, 2}, 61, 61);
        wandered(new int[] {60, 60, HIGH, 2}, 61, 63);
        x.addWall(20, 32, 40, 32, 0, 0);
        wandered(new int[] {30, 30, 0, 1}, 27, 30);
        wandered(new int[] {30, 30, 0, 2}, 30, 31);
        int[][] bad = {{64, 0, 1, 1}, {-1, 0, 1, 1}, {0, 64, 1, 1}, {0, -1, 1, 1}, {0, 0, -1, 1},
            {0, 0, LOW, 1}, {0, 0, 1, 0}, {0, 0, 1, 61}, {0, 0, 1, -1}, {0, 0, 1, HIGH}};
        for (int[] b : bad) {
            is("43: bad value", x.wander(b[0], b[1], b[2], b[3]), -2);
        }
        due.isTrue("43: 60 steps", x.wander(63, 63, HIGH, 60) >= 0);
        is("43: it has no memory", x.wander(30, 30, 0, 1), 27 * 64 + 30);
    }

    private static void promise44() {
        fresh();
        is("44: no walls", x.nearestWall(0, 0), -8);
        int[][] bad = {{64, 0}, {-1, 0}, {0, 64}, {0, -1}, {LOW, 0}, {0, HIGH}};
        for (int[] b : bad) {
            is("44: bad value", x.nearestWall(b[0], b[1]), -2);
        }
        x.addWall(10, 10, 20, 10, 1, 0);
        x.addWall(20, 20, 10, 20, 2, 1);
        is("44: nearer to the first", x.nearestWall(15, 14), 0);
        is("44: nearer to the second", x.nearestWall(15, 16), 1);
        is("44: of both the lowest", x.nearestWall(15, 15), 0);
        x.addWall(25, 15, 30, 15, 0, 0);
        is("44: its start point", x.nearestWall(21, 15), 2);
        is("44: an end point is as near as the sides of two", x.nearestWall(20, 15), 0);
        is("44: an end point", x.nearestWall(63, 63), 2);
        x.removeWall(0);
        is("44: the lowest that is left", x.nearestWall(20, 15), 1);
        fresh();
        x.addWall(3, 8, 3, 20, 0, 0);
        x.addWall(0, 0, 6, 8, 0, 0);
        // (0, 5) is 3 away from the foot on wall 1 (30^2 / 100 = 9), 18 squared from wall 0
        is("44: a slanted wall", x.nearestWall(0, 5), 1);
        x.moveWall(0, 0, -5);
        is("44: fractions that are the same", x.nearestWall(0, 5), 0);
        fresh();
        x.addWall(0, 0, 6, 8, 0, 0);
        x.addWall(3, 3, 3, 15, 0, 0);
        is("44: and the other way round", x.nearestWall(0, 5), 0);
    }

    private static void clear(int px, int py, long top, long bottom) {
        is("45: top of " + px + ", " + py, x.clearance(px, py, 0), top);
        is("45: bottom of " + px + ", " + py, x.clearance(px, py, 1), bottom);
    }

    private static void promise45() {
        fresh();
        clear(9, 9, -8, -8);
        int[][] bad = {{64, 0, 0}, {-1, 0, 0}, {0, 64, 0}, {0, -1, 0}, {0, 0, 2}, {0, 0, -1},
            {LOW, 0, 0}, {0, HIGH, 1}};
        for (int[] b : bad) {
            is("45: bad value", x.clearance(b[0], b[1], b[2]), -2);
        }
        x.addWall(0, 0, 3, 4, 1, 1);
        clear(1, 0, 16, 25);
        clear(0, 5, 9, 1);
        clear(3, 4, 0, 1);
        clear(10, 10, 85, 1);
        clear(0, 0, 0, 1);
        x.turnWall(0);
        clear(1, 0, 16, 25);
        clear(10, 10, 85, 1);
        x.moveWall(0, 20, 20);
        clear(10, 12, 164, 1);
        fresh();
        x.addWall(0, 0, 0, 1, 0, 0);
        clear(63, 63, 7813, 1);
        x.addWall(0, 63, 63, 0, 2, 0);
        clear(63, 63, 3969, 2);
        clear(62, 1, 0, 1);
        clear(1, 1, 1, 1);
        fresh();
        x.addWall(0, 0, 63, 62, 0, 0);
        clear(62, 0, 3844L * 3844L, 7813);
        is("45: no build", x.buildCount(), 0);
    }

    /** Wall 0 cuts wall 1, but not the other way round. */
    private static void cutter() {
        fresh();
        x.addWall(20, 20, 20, 30, 0, 0);
        x.addWall(10, 10, 30, 10, 0, 0);
    }

    /** Four walls in a ring, in which the line of each cuts the next. */
    private static void ring() {
        fresh();
        x.addWall(21, 20, 40, 20, 0, 0);
        x.addWall(30, 21, 30, 40, 0, 0);
        x.addWall(10, 30, 29, 30, 0, 0);
        x.addWall(20, 10, 20, 29, 0, 0);
    }

    private static void promise46() {
        fresh();
        is("46: no walls", x.piecesWith(0, 0), 0);
        int[][] bad = {{10, 0}, {-1, 0}, {0, 10}, {0, -1}, {LOW, 0}, {0, HIGH}};
        for (int[] b : bad) {
            is("46: bad value", x.piecesWith(b[0], b[1]), -2);
        }
        cutter();
        is("46: without weights", x.piecesWith(0, 0), 3);
        is("46: the cut costs something", x.piecesWith(1, 0), 2);
        is("46: the balance costs something", x.piecesWith(0, 9), 3);
        is("46: the same price", x.piecesWith(1, 1), 3);
        is("46: the cut costs more", x.piecesWith(2, 1), 2);
        is("46: the balance costs more", x.piecesWith(8, 9), 3);
        is("46: the cut costs more", x.piecesWith(9, 8), 2);
        x.addWall(0, 25, 63, 25, 0, 1);
        is("46: movable walls are left out", x.piecesWith(0, 0), 3);
        is("46: they are in the tree", x.pieceCount(), 4);
        x.piecesWith(0, 9);
        is("46: the tree stays", x.pieceCount(), 4);
        is("46: and its root", x.nodeWall(0), 1);
        is("46: the weights stay", x.weights(), 51);
        is("46: no build", x.buildCount(), 1);
        is("46: no edit", x.undo(), 2);
    }

    private static void best(String what, int due, int[][] walls) {
        fresh();
        for (int[] w : walls) {
            x.addWall(w[0], w[1], w[2], w[3], 0, 0);
        }
        is(what, x.bestWeights(), due);
    }

    private static void promise47() {
        fresh();
        is("47: no walls", x.bestWeights(), 0);
        cutter();
        is("47: the fewest pieces", x.bestWeights(), 10);
        x.setWeights(9, 9);
        is("47: the present weights do not matter", x.bestWeights(), 10);
        is("47: they stay", x.weights(), 99);
        is("47: no build", x.buildCount(), 0);
        fresh();
        x.addWall(10, 0, 10, 9, 0, 0);
        is("47: one wall", x.bestWeights(), 0);
        x.addWall(11, 0, 11, 9, 0, 0);
        is("47: two walls", x.bestWeights(), 0);
        x.addWall(12, 0, 12, 9, 0, 0);
        is("47: of the same pieces the least depth", x.bestWeights(), 1);
        for (int i = 9; i > 5; i--) {
            x.addWall(i, 0, i, 9, 0, 1);
        }
        is("47: movable walls, deeper in the balanced tree, are left out", x.bestWeights(), 1);
        best("47: no split weight below 3 is as good", 31, new int[][] {{0, 12, 0, 48},
            {18, 6, 36, 36}, {48, 18, 24, 18}, {30, 48, 24, 54}, {24, 6, 48, 6}, {6, 0, 54, 6},
            {36, 42, 48, 36}, {12, 18, 36, 36}});
        best("47: split weight 4 would be better", 11, new int[][] {{42, 36, 42, 0},
            {54, 30, 24, 30}, {48, 54, 24, 12}, {42, 48, 6, 6}, {12, 6, 24, 6}, {24, 12, 54, 6}});
        best("47: no balance weight below 3 is as good", 23, new int[][] {{54, 6, 6, 54},
            {0, 6, 6, 24}, {54, 30, 24, 30}, {12, 36, 0, 42}, {0, 42, 36, 48}, {54, 30, 0, 54},
            {42, 54, 0, 18}});
        best("47: balance weight 4 would be better", 10, new int[][] {{42, 36, 0, 48},
            {54, 6, 24, 48}, {12, 12, 54, 42}, {42, 24, 36, 30}, {54, 48, 24, 30}, {18, 24, 6, 36},
            {36, 6, 6, 36}});
    }

    private static void promise48() {
        fresh();
        is("48: no walls", x.leastPieces(), 0);
        cutter();
        is("48: the greedy tree has more", x.piecesWith(0, 0), 3);
        is("48: the least", x.leastPieces(), 2);
        ring();
        is("48: a ring cannot do without a cut", x.leastPieces(), 5);
        x.addWall(60, 20, 62, 20, 0, 0);
        is("48: five fixed walls", x.leastPieces(), 6);
        x.addWall(0, 5, 63, 5, 0, 1);
        x.addWall(25, 0, 25, 63, 0, 1);
        is("48: movable walls are left out", x.leastPieces(), 6);
        x.addWall(1, 60, 2, 60, 0, 0);
        is("48: six fixed walls", x.leastPieces(), -5);
        is("48: no build", x.buildCount(), 0);
        fresh();
        for (int i = 0; i < 5; i++) {
            x.addWall(0, 10 * i, 60, 60 - 10 * i, i % 3, 0);
        }
        // all of them go through (30, 30): the first cuts four, both halves have the rest
        is("48: five walls through a point", x.leastPieces(), 9);
        fresh();
        x.addWall(1, 1, 9, 1, 0, 0);
        x.addWall(20, 1, 11, 1, 0, 0);
        is("48: two on a line", x.leastPieces(), 2);
        x.removeWall(0);
        is("48: one is left", x.leastPieces(), 1);
        x.removeWall(1);
        is("48: none is left", x.leastPieces(), 0);
        is("49: none is left", x.bestRoot(), -8);
        is("46: none is left", x.piecesWith(5, 1), 0);
    }

    private static void promise49() {
        fresh();
        is("49: no walls", x.bestRoot(), -8);
        x.addWall(5, 5, 6, 6, 0, 1);
        is("49: no fixed wall", x.bestRoot(), -8);
        cutter();
        is("49: not the one that cuts", x.bestRoot(), 1);
        x.removeWall(0);
        is("49: the only one", x.bestRoot(), 1);
        x.addWall(20, 50, 30, 50, 0, 0);
        is("49: of several the lowest", x.bestRoot(), 0);
        ring();
        is("49: each will do", x.bestRoot(), 0);
        x.addWall(60, 20, 62, 20, 0, 0);
        x.addWall(63, 20, 63, 50, 0, 1);
        is("49: five fixed walls", x.bestRoot(), 0);
        x.addWall(1, 60, 2, 60, 0, 0);
        is("49: six fixed walls", x.bestRoot(), -5);
        is("49: no build", x.buildCount(), 0);
    }

    public static void main(String[] args) {
        promise42();
        promise43();
        promise44();
        promise45();
        promise46();
        promise47();
        promise48();
        promise49();
        due.close("OtherPromiseTest");
    }
}
