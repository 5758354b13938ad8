/** Promises 35 to 41: what blocks a way, what a column hits, and what is seen. */
public final class RaysPromiseTest extends Promises {
    private static void promise35() {
        fresh();
        is("35: no walls", x.blocker(0, 0, 63, 63), -8);
        x.addWall(20, 10, 20, 30, 0, 0);
        is("35: from the left", x.blocker(10, 20, 30, 20), 0);
        is("35: from the right", x.blocker(30, 20, 10, 20), 0);
        is("35: ends on the wall", x.blocker(10, 20, 20, 20), 0);
        is("35: ends before it", x.blocker(10, 20, 19, 20), -8);
        is("35: begins on the wall", x.blocker(20, 20, 30, 20), -8);
        is("35: the wall is behind", x.blocker(30, 20, 40, 20), -8);
        is("35: through the start point", x.blocker(10, 10, 30, 10), 0);
        is("35: through the end point", x.blocker(10, 30, 30, 30), 0);
        is("35: past the start point", x.blocker(10, 9, 30, 9), -8);
        is("35: past the end point", x.blocker(10, 31, 30, 31), -8);
        is("35: along the wall", x.blocker(20, 0, 20, 63), -8);
        is("35: beside the wall", x.blocker(19, 0, 19, 63), -8);
        x.addWall(15, 10, 15, 30, 0, 1);
        is("35: the least distance, of a movable wall", x.blocker(10, 20, 30, 20), 1);
        is("35: from the other side", x.blocker(30, 20, 10, 20), 0);
        x.addWall(15, 5, 15, 25, 0, 0);
        is("35: of several the lowest", x.blocker(10, 20, 30, 20), 1);
        is("35: only one", x.blocker(10, 6, 30, 6), 2);
        fresh();
        x.addWall(20, 10, 20, 30, 2, 0);
        is("35: one-way from the front", x.blocker(10, 20, 30, 20), 0);
        is("35: one-way from behind", x.blocker(30, 20, 10, 20), -8);
        is("35: one-way from its line", x.blocker(20, 5, 30, 20), -8);
        x.turnWall(0);
        is("35: turned", x.blocker(10, 20, 30, 20), -8);
        is("35: turned", x.blocker(30, 20, 10, 20), 0);
        x.setKind(0, 1);
        is("35: glass", x.blocker(30, 20, 10, 20), -8);
        fresh();
        x.addWall(11, 10, 11, 11, 0, 0);
        is("35: the shortest way and wall", x.blocker(10, 10, 11, 10), 0);
        is("35: the other way", x.blocker(12, 11, 11, 11), 0);
        is("35: no further", x.blocker(11, 12, 10, 11), -8);
        x.setKind(0, 2);
        is("35: one-way with side value 1", x.blocker(10, 10, 11, 10), 0);
        is("35: one-way with side value -1", x.blocker(12, 10, 11, 10), -8);
        is("35: the wall to be drawn at side value 1", x.drawCount(10, 10), 1);
        int[][] bad = {{64, 0, 1, 1}, {0, 64, 1, 1}, {0, 0, 64, 1}, {0, 0, 1, 64}, {-1, 0, 1, 1},
            {0, -1, 1, 1}, {0, 0, -1, 1}, {0, 0, 1, -1}, {9, 9, 9, 9}, {LOW, 0, HIGH, 0}};
        for (int[] b : bad) {
            is("35: bad value", x.blocker(b[0], b[1], b[2], b[3]), -2);
        }
        is("35: same x", x.blocker(0, 63, 0, 0), -8);
        is("35: same y", x.blocker(63, 0, 0, 0), -8);
    }

    /** A wall that only the leftmost column of this picture hits. */
    private static void leftmost(int x1, int y1, int x2, int y2, int[] picture) {
        fresh();
        x.addWall(x1, y1, x2, y2, 0, 0);
        for (int c = 0; c < 32; c++) {
            is("36: column " + c, x.columnWall(picture[0], picture[1], picture[2], picture[3], c),
                    c == 0 ? 0 : -8);
        }
    }

    private static void promise36() {
        fresh();
        is("36: no walls", x.columnWall(30, 30, 1, 0, 0), -8);
        badPictures("36", (a, b) -> x.columnWall(a, b, 1, 0, 16),
                (a, b) -> x.columnWall(9, 9, a, b, 16));
        is("36: column 32", x.columnWall(30, 30, 1, 0, 32), -2);
        is("36: column -1", x.columnWall(30, 30, 1, 0, -1), -2);
        is("36: column lowest", x.columnWall(30, 30, 1, 0, LOW), -2);
        is("36: column 31", x.columnWall(30, 30, 1, 0, 31), -8);
        leftmost(62, 60, 62, 62, new int[] {30, 30, 1, 0});
        leftmost(0, 62, 1, 62, new int[] {31, 30, 0, 1});
        leftmost(8, 9, 8, 10, new int[] {40, 40, -1, 0});
        leftmost(41, 8, 42, 8, new int[] {10, 40, 0, -1});
        leftmost(1, 63, 2, 63, new int[] {0, 0, 1, 1});
        leftmost(62, 60, 62, 62, new int[] {30, 30, 7, 0});
        fresh();
        x.addWall(46, 20, 46, 40, 0, 0);
        x.addWall(40, 40, 40, 20, 2, 0);
        x.addWall(35, 20, 35, 40, 1, 1);
        is("36: glass and one-way from behind are passed", x.columnWall(30, 30, 1, 0, 16), 0);
        x.turnWall(1);
        is("36: one-way from the front", x.columnWall(30, 30, 1, 0, 16), 1);
        x.setKind(2, 0);
        is("36: solid and near", x.columnWall(30, 30, 1, 0, 16), 2);
        x.addWall(35, 10, 35, 50, 0, 0);
        is("36: of several the lowest", x.columnWall(30, 30, 1, 0, 16), 2);
        is("36: nothing that way", x.columnWall(30, 30, -1, 0, 16), -8);
        is("36: a wall under the feet", x.columnWall(35, 30, 1, 0, 16), 1);
    }

    private static void distance(String what, int[] ray, long top, long bottom) {
        is(what + ", top", x.columnDistance(ray[0], ray[1], ray[2], ray[3], ray[4], 0), top);
        is(what + ", bottom", x.columnDistance(ray[0], ray[1], ray[2], ray[3], ray[4], 1), bottom);
    }

    private static void promise37() {
        fresh();
        distance("37: no walls", new int[] {30, 30, 1, 0, 16}, -8, -8);
        badPictures("37", (a, b) -> x.columnDistance(a, b, 1, 0, 16, 0),
                (a, b) -> x.columnDistance(9, 9, a, b, 16, 1));
        is("37: column 32", x.columnDistance(30, 30, 1, 0, 32, 0), -2);
        is("37: column -1", x.columnDistance(30, 30, 1, 0, -1, 0), -2);
        is("37: part 2", x.columnDistance(30, 30, 1, 0, 0, 2), -2);
        is("37: part -1", x.columnDistance(30, 30, 1, 0, 0, -1), -2);
        x.addWall(46, 14, 46, 46, 0, 0);
        distance("37: half of the way", new int[] {30, 30, 1, 0, 16}, 1, 2);
        distance("37: half of the way, at the side", new int[] {30, 30, 1, 0, 0}, 1, 2);
        distance("37: a quarter", new int[] {30, 30, 2, 0, 16}, 1, 4);
        distance("37: all of it", new int[] {14, 30, 1, 0, 16}, 1, 1);
        distance("37: behind the eye", new int[] {50, 30, 1, 0, 16}, -8, -8);
        x.setKind(0, 1);
        distance("37: glass", new int[] {30, 30, 1, 0, 16}, -8, -8);
        fresh();
        x.addWall(46, 20, 50, 40, 0, 0);
        distance("37: a slanted wall", new int[] {30, 30, 1, 0, 15}, 30, 53);
        x.turnWall(0);
        distance("37: turned", new int[] {30, 30, 1, 0, 15}, 30, 53);
        x.addWall(40, 20, 40, 40, 0, 0);
        distance("37: the first hit is nearer", new int[] {30, 30, 1, 0, 15}, 5, 16);
        fresh();
        x.addWall(63, 0, 63, 1, 0, 0);
        distance("37: far", new int[] {0, 0, 0, 1, 31}, -8, -8);
        distance("37: far, to the right", new int[] {1, 0, 1, 1, 31}, 62, 63);
    }

    private static void promise38() {
        fresh();
        is("38: no walls", x.paneCount(30, 30, 1, 0, 16), 0);
        badPictures("38", (a, b) -> x.paneCount(a, b, 1, 0, 16), (a, b) -> x.paneCount(9, 9, a, b, 16));
        is("38: column 32", x.paneCount(30, 30, 1, 0, 32), -2);
        is("38: column -1", x.paneCount(30, 30, 1, 0, -1), -2);
        x.addWall(20, 0, 20, 60, 1, 0);
        x.addWall(30, 60, 30, 0, 1, 1);
        is("38: all panes if there is no first hit", x.paneCount(10, 30, 1, 0, 16), 2);
        is("38: on a pane", x.paneCount(20, 30, 1, 0, 16), 1);
        is("38: the other way", x.paneCount(10, 30, -1, 0, 16), 0);
        x.addWall(40, 0, 40, 60, 0, 0);
        is("38: both are nearer", x.paneCount(10, 30, 1, 0, 16), 2);
        is("38: from the other side none is", x.paneCount(50, 30, -1, 0, 16), 0);
        x.moveWall(2, -10, 0);
        is("38: the same distance is not less", x.paneCount(10, 30, 1, 0, 16), 1);
        x.setKind(2, 2);
        is("38: one-way from the front", x.paneCount(10, 30, 1, 0, 16), 1);
        x.turnWall(2);
        is("38: one-way from behind is no first hit and no pane", x.paneCount(10, 30, 1, 0, 16), 2);
        x.removeWall(0);
        is("38: a removed pane", x.paneCount(10, 30, 1, 0, 16), 1);
        x.moveWall(1, 0, 3);
        is("38: its end is still hit", x.paneCount(0, 33, 1, 0, 16), 1);
        x.removeWall(2);
        x.undo();
        x.moveWall(1, 0, -3);
        x.addWall(25, 31, 35, 40, 1, 0);
        is("38: not hit by the column", x.paneCount(10, 30, 1, 0, 16), 1);
    }

    private static void promise39() {
        fresh();
        badPictures("39", (a, b) -> x.seenColumns(a, b, 1, 0, 0), (a, b) -> x.seenColumns(9, 9, a, b, 0));
        is("39: bad value comes first", x.seenColumns(30, 30, 0, 0, 12), -2);
        is("39: no wall 0", x.seenColumns(30, 30, 1, 0, 0), -1);
        is("39: no wall 12", x.seenColumns(30, 30, 1, 0, 12), -1);
        is("39: no wall -1", x.seenColumns(30, 30, 1, 0, -1), -1);
        x.addWall(46, 0, 46, 60, 0, 0);
        is("39: all columns", x.seenColumns(30, 30, 1, 0, 0), 32);
        is("39: none that way", x.seenColumns(30, 30, -1, 0, 0), 0);
        x.addWall(46, 60, 46, 30, 0, 1);
        is("39: of two the lowest", x.seenColumns(30, 30, 1, 0, 0), 32);
        is("39: not the other", x.seenColumns(30, 30, 1, 0, 1), 0);
        x.moveWall(1, -1, 0);
        is("39: half of it", x.seenColumns(30, 30, 1, 0, 0), 16);
        is("39: the other half", x.seenColumns(30, 30, 1, 0, 1), 16);
        x.setKind(1, 1);
        is("39: glass is not seen", x.seenColumns(30, 30, 1, 0, 1), 0);
        is("39: but what is behind it", x.seenColumns(30, 30, 1, 0, 0), 32);
        is("39: no wall 2", x.seenColumns(30, 30, 1, 0, 2), -1);
        is("39: no wall lowest", x.seenColumns(30, 30, 1, 0, LOW), -1);
    }

    private static void promise40() {
        fresh();
        is("40: from a point that counts", x.seenPoints(56, 56), 63);
        is("40: from another", x.seenPoints(63, 63), 64);
        is("40: x only", x.seenPoints(8, 1), 64);
        int[][] bad = {{64, 0}, {-1, 0}, {0, 64}, {0, -1}, {LOW, 0}, {0, HIGH}};
        for (int[] b : bad) {
            is("40: bad value", x.seenPoints(b[0], b[1]), -2);
        }
        x.addWall(4, 0, 4, 63, 0, 0);
        is("40: the left column alone", x.seenPoints(0, 0), 7);
        is("40: and from beside", x.seenPoints(1, 1), 8);
        is("40: all but this column", x.seenPoints(5, 5), 56);
        is("40: on the wall", x.seenPoints(4, 10), 64);
        x.moveWall(0, 4, 0);
        is("40: points on the wall are not seen", x.seenPoints(0, 0), 7);
        is("40: nor from the other side", x.seenPoints(9, 0), 48);
        is("40: from a point on the wall", x.seenPoints(8, 0), 63);
        x.setKind(0, 2);
        is("40: one-way from the front", x.seenPoints(0, 0), 7);
        is("40: one-way from behind", x.seenPoints(9, 0), 64);
        x.setKind(0, 1);
        is("40: glass", x.seenPoints(0, 0), 63);
        x.moveWall(0, 2, 0);
        x.setKind(0, 0);
        x.addWall(63, 3, 5, 3, 0, 1);
        is("40: one row and one column", x.seenPoints(63, 0), 6);
    }

    private static void promise41() {
        fresh();
        is("41: no walls", x.lookout(0), 0);
        is("41: no walls", x.lookout(1), 63);
        is("41: 2", x.lookout(2), -2);
        is("41: -1", x.lookout(-1), -2);
        is("41: lowest", x.lookout(LOW), -2);
        x.addWall(4, 0, 4, 63, 0, 0);
        is("41: right of the wall", x.lookout(0), 512);
        is("41: right of the wall", x.lookout(1), 55);
        x.addWall(0, 12, 63, 12, 0, 1);
        is("41: and above the other", x.lookout(0), 64 * 8 + 16);
        is("41: and above the other", x.lookout(1), 41);
        fresh();
        x.addWall(0, 4, 63, 4, 0, 0);
        is("41: least x, then least y", x.lookout(0), 8);
        x.moveWall(0, 0, 56);
        is("41: all points are below it", x.lookout(0), 0);
        x.moveWall(0, 0, -4);
        is("41: on a line of points", x.lookout(0), 56);
        is("41: where everything is seen", x.lookout(1), 63);
        x.addWall(60, 0, 60, 63, 2, 0);
        is("41: a wall to the right of all points", x.lookout(0), 56);
    }

    public static void main(String[] args) {
        promise35();
        promise36();
        promise37();
        promise38();
        promise39();
        promise40();
        promise41();
        due.close("RaysPromiseTest");
    }
}
