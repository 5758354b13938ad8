/** Promises 1 to 12: a new object, walls, weights and undoing. */
public final class WallsPromiseTest extends Promises {
    private static void promise1() {
        fresh();
        is("1: walls", x.wallCount(), 0);
        is("1: weights", x.weights(), 51);
        is("1: text", x.clearText(), 0);
        is("1: builds", x.buildCount(), 0);
        is("1: undo", x.undo(), -5);
        is("1: fault", x.faultKind(), -8);
        is("1: nodes", x.nodeCount(), 0);
        is("1: the tree of no walls is no build", x.buildCount(), 0);
        for (int wall = -1; wall <= 12; wall++) {
            is("1: wall " + wall, x.kind(wall), -1);
        }
        WallPartition other = new WallPartition();
        other.addWall(1, 2, 3, 4, 0, 0);
        is("1: another object has its own walls", x.wallCount(), 0);
    }

    private static void promise2() {
        fresh();
        is("2: all corners", x.addWall(0, 63, 63, 0, 2, 1), 0);
        wall(0, 0, 63, 63, 0, 12);
        is("2: next", x.addWall(1, 2, 3, 4, 1, 0), 1);
        wall(1, 1, 2, 3, 4, 1);
        int[][] bad = {{64, 0, 1, 1, 0, 0}, {0, 64, 1, 1, 0, 0}, {0, 0, 64, 1, 0, 0},
            {0, 0, 1, 64, 0, 0}, {-1, 0, 1, 1, 0, 0}, {0, -1, 1, 1, 0, 0}, {0, 0, -1, 1, 0, 0},
            {0, 0, 1, -1, 0, 0}, {0, 0, 1, 1, 3, 0}, {0, 0, 1, 1, -1, 0}, {0, 0, 1, 1, 0, 2},
            {0, 0, 1, 1, 0, -1}, {LOW, 0, 1, 1, 0, 0}, {0, 0, 1, HIGH, 0, 0},
            {5, 5, 5, 5, 3, 0}, {64, 5, 64, 5, 0, 0}, {5, 5, 5, 5, 0, 2}};
        for (int[] b : bad) {
            is("2: bad value", x.addWall(b[0], b[1], b[2], b[3], b[4], b[5]), -2);
        }
        is("2: zero length", x.addWall(7, 7, 7, 7, 2, 1), -4);
        is("2: same x only", x.addWall(7, 7, 7, 8, 2, 1), 2);
        is("2: same y only", x.addWall(8, 7, 7, 7, 2, 1), 3);
        is("2: four walls", x.wallCount(), 4);
        is("2: three edits after this undo", x.undo(), 3);
        x.addWall(8, 7, 7, 7, 2, 1);
        x.removeWall(1);
        x.removeWall(0);
        is("2: the lowest number that no wall has", x.addWall(1, 1, 2, 2, 0, 0), 0);
        is("2: then the next", x.addWall(1, 1, 2, 2, 0, 0), 1);
        for (int i = 4; i < 12; i++) {
            is("2: up to twelve", x.addWall(i, 1, i, 2, 0, 0), i);
        }
        is("2: a thirteenth", x.addWall(1, 1, 2, 2, 0, 0), -3);
        is("2: zero length before no room", x.addWall(1, 1, 1, 1, 0, 0), -4);
        is("2: bad value before no room", x.addWall(1, 1, 1, 64, 0, 0), -2);
        is("2: an error is no edit", x.undo(), 7);
        is("2: and undoes the last wall that was added", x.wallCount(), 11);
    }

    private static void promise3() {
        fresh();
        is("3: none yet", x.removeWall(0), -1);
        x.addWall(1, 1, 2, 2, 0, 0);
        x.addWall(3, 3, 4, 4, 1, 0);
        x.addWall(5, 5, 6, 6, 2, 1);
        is("3: removed", x.removeWall(1), 2);
        is("3: it is gone", x.kind(1), -1);
        wall(0, 1, 1, 2, 2, 0);
        wall(2, 5, 5, 6, 6, 12);
        is("3: removed already", x.removeWall(1), -1);
        is("3: 12", x.removeWall(12), -1);
        is("3: -1", x.removeWall(-1), -1);
        is("3: lowest", x.removeWall(LOW), -1);
        is("3: highest", x.removeWall(HIGH), -1);
        is("3: it is an edit, errors are none", x.undo(), 3);
        wall(1, 3, 3, 4, 4, 1);
        x.removeWall(0);
        x.removeWall(1);
        is("3: the last", x.removeWall(2), 0);
    }

    private static void promise4() {
        fresh();
        is("4: no wall", x.moveWall(0, 0, 0), -1);
        is("4: no wall comes first", x.moveWall(12, 64, 0), -1);
        is("4: no wall below 0", x.moveWall(-1, 0, 0), -1);
        x.addWall(10, 20, 30, 5, 2, 0);
        is("4: moved", x.moveWall(0, 3, -5), 660);
        wall(0, 13, 15, 33, 0, 2);
        is("4: to the other edges", x.moveWall(0, 30, 48), 847);
        wall(0, 43, 63, 63, 48, 2);
        is("4: x2 too high", x.moveWall(0, 1, 0), -2);
        is("4: y1 too high", x.moveWall(0, 0, 1), -2);
        is("4: x1 too low", x.moveWall(0, -44, 0), -2);
        is("4: y2 too low", x.moveWall(0, 0, -49), -2);
        is("4: least x", x.moveWall(0, -43, 0), 2815);
        wall(0, 0, 63, 20, 48, 2);
        x.turnWall(0);
        is("4: turned, x of the start too high", x.moveWall(0, 44, 0), -2);
        is("4: turned, y of the start too low", x.moveWall(0, 0, -49), -2);
        is("4: turned, x of the end too low", x.moveWall(0, -1, 0), -2);
        is("4: turned, y of the end too high", x.moveWall(0, 0, 1), -2);
        is("4: dx 64", x.moveWall(0, 64, 0), -2);
        is("4: dx -64", x.moveWall(0, -64, 0), -2);
        is("4: dy 64", x.moveWall(0, 0, 64), -2);
        is("4: dy -64", x.moveWall(0, 0, -64), -2);
        is("4: dx highest", x.moveWall(0, HIGH, HIGH), -2);
        is("4: dy lowest", x.moveWall(0, LOW, LOW), -2);
        fresh();
        x.addWall(0, 63, 0, 62, 1, 1);
        is("4: a movable wall, all the way", x.moveWall(0, 63, -62), 63);
        wall(0, 63, 1, 63, 0, 11);
        is("4: and back", x.moveWall(0, -63, 62), 4033);
        fresh();
        x.addWall(63, 0, 62, 0, 0, 0);
        is("4: by -62 and 63", x.moveWall(0, -62, 63), 4032);
        wall(0, 1, 63, 0, 63, 0);
        is("4: nowhere is an edit too", x.moveWall(0, 0, 0), 127);
        is("4: undone", x.undo(), 2);
        x.undo();
        wall(0, 63, 0, 62, 0, 0);
    }

    private static void promise5() {
        fresh();
        is("5: no wall", x.turnWall(0), -1);
        x.addWall(1, 2, 3, 4, 0, 0);
        x.addWall(5, 6, 7, 8, 1, 1);
        x.addWall(9, 10, 11, 12, 2, 0);
        is("5: solid", x.turnWall(0), 0);
        is("5: glass", x.turnWall(1), 1);
        is("5: one-way", x.turnWall(2), 2);
        wall(0, 3, 4, 1, 2, 0);
        wall(1, 7, 8, 5, 6, 11);
        wall(2, 11, 12, 9, 10, 2);
        is("5: no wall 3", x.turnWall(3), -1);
        is("5: no wall -1", x.turnWall(-1), -1);
        is("5: no wall 12", x.turnWall(12), -1);
        is("5: an edit", x.undo(), 5);
        wall(2, 9, 10, 11, 12, 2);
    }

    private static void promise6() {
        fresh();
        is("6: no wall", x.setKind(0, 0), -1);
        is("6: no wall comes first", x.setKind(0, 3), -1);
        x.addWall(1, 2, 3, 4, 0, 1);
        is("6: was solid", x.setKind(0, 2), 0);
        is("6: was one-way", x.setKind(0, 1), 2);
        is("6: was glass", x.setKind(0, 1), 1);
        wall(0, 1, 2, 3, 4, 11);
        is("6: 3", x.setKind(0, 3), -2);
        is("6: -1", x.setKind(0, -1), -2);
        is("6: no wall -1", x.setKind(-1, 0), -1);
        is("6: no wall 12", x.setKind(12, 0), -1);
        is("6: the same kind is an edit, errors are none", x.undo(), 3);
        is("6: still glass", x.kind(0), 11);
        x.undo();
        is("6: one-way again", x.kind(0), 12);
    }

    private static void promise7() {
        fresh();
        is("7: at first", x.setWeights(9, 0), 51);
        is("7: then", x.setWeights(0, 9), 90);
        is("7: then", x.weights(), 9);
        is("7: split 10", x.setWeights(10, 0), -2);
        is("7: split -1", x.setWeights(-1, 0), -2);
        is("7: balance 10", x.setWeights(0, 10), -2);
        is("7: balance -1", x.setWeights(0, -1), -2);
        is("7: far out", x.setWeights(LOW, HIGH), -2);
        is("7: stays", x.weights(), 9);
        is("7: an edit", x.undo(), 1);
        is("7: restored", x.weights(), 90);
        is("7: an edit", x.undo(), 0);
        is("7: restored", x.weights(), 51);
    }

    private static void promise8() {
        fresh();
        is("8: nothing", x.undo(), -5);
        for (int i = 1; i <= 10; i++) {
            x.addWall(i, 0, i, 9, 0, 0);
        }
        is("8: eight are kept", x.undo(), 7);
        is("8: the latest is undone first", x.kind(9), -1);
        is("8: only this", x.wallCount(), 9);
        x.setKind(0, 2);
        x.setWeights(1, 2);
        is("8: kept again", x.undo(), 8 - 1);
        is("8: weights", x.weights(), 51);
        is("8: the kind stays", x.kind(0), 2);
        for (int i = 6; i >= 0; i--) {
            is("8: down", x.undo(), i);
        }
        is("8: no more", x.undo(), -5);
        is("8: three walls stay", x.wallCount(), 3);
        is("8: solid again", x.kind(0), 0);
        fresh();
        x.addWall(1, 1, 9, 9, 1, 1);
        text("s1,2,3,4;g5,6,7,8;");
        x.nodeCount();
        x.load();
        x.nodeCount();
        text("q");
        x.load();
        is("8: load undone", x.undo(), 1);
        wall(0, 1, 1, 9, 9, 11);
        is("8: no second wall", x.kind(1), -1);
        is("8: the fault stays", x.faultPlace(), 0);
        is("8: the number of builds stays", x.buildCount(), 1);
        is("8: the text stays", x.clearText(), 1);
        is("8: the tree follows", x.pieceWall(0), 0);
        is("8: and is a build", x.buildCount(), 2);
        is("8: the first", x.undo(), 0);
        is("8: no walls", x.wallCount(), 0);
        is("8: an undo cannot be undone", x.undo(), -5);
    }

    private static void promise9() {
        fresh();
        is("9: none", x.wallCount(), 0);
        x.addWall(1, 1, 2, 2, 0, 0);
        x.addWall(1, 1, 2, 2, 0, 1);
        x.addWall(1, 1, 1, 1, 0, 1);
        is("9: fixed and movable", x.wallCount(), 2);
        x.removeWall(0);
        is("9: one left", x.wallCount(), 1);
    }

    private static void promise10() {
        fresh();
        is("10: no wall", x.coordinate(0, 0), -1);
        is("10: no wall comes first", x.coordinate(0, 4), -1);
        x.addWall(11, 22, 33, 44, 0, 0);
        wall(0, 11, 22, 33, 44, 0);
        is("10: 4", x.coordinate(0, 4), -2);
        is("10: -1", x.coordinate(0, -1), -2);
        is("10: lowest", x.coordinate(0, LOW), -2);
        is("10: no wall -1", x.coordinate(-1, 0), -1);
        is("10: no wall 12", x.coordinate(12, 0), -1);
        is("10: no wall highest", x.coordinate(HIGH, 0), -1);
    }

    private static void promise11() {
        fresh();
        for (int i = 0; i < 6; i++) {
            x.addWall(1, 1, 2, 2, i % 3, i / 3);
        }
        for (int i = 0; i < 6; i++) {
            is("11: kind " + i, x.kind(i), i % 3 + 10 * (i / 3));
        }
        is("11: no wall", x.kind(6), -1);
        is("11: -1", x.kind(-1), -1);
        is("11: 12", x.kind(12), -1);
        is("11: lowest", x.kind(LOW), -1);
    }

    private static void promise12() {
        fresh();
        is("12: at first", x.weights(), 51);
        x.setWeights(3, 8);
        is("12: split before balance", x.weights(), 38);
    }

    public static void main(String[] args) {
        promise1();
        promise2();
        promise3();
        promise4();
        promise5();
        promise6();
        promise7();
        promise8();
        promise9();
        promise10();
        promise11();
        promise12();
        due.close("WallsPromiseTest");
    }
}
