/** The five examples of the document, each on a new object. */
public final class ExamplesTest {
    private static final Due due = new Due();

    /** Two walls that cross, the tree, and the order of drawing. */
    private static void example1() {
        WallPartition x = new WallPartition();
        due.is("example 1: addWall(10, 10, 50, 10, 0, 0)", x.addWall(10, 10, 50, 10, 0, 0), 0L);
        due.is("example 1: addWall(30, 0, 30, 40, 0, 0)", x.addWall(30, 0, 30, 40, 0, 0), 1L);
        due.is("example 1: pieceCount()", x.pieceCount(), 3L);
        due.is("example 1: nodeWall(0)", x.nodeWall(0), 0L);
        due.is("example 1: pieceWall(1)", x.pieceWall(1), 1L);
        due.is("example 1: pieceBound(2, 2)", x.pieceBound(2, 2), 1L);
        due.is("example 1: pieceBound(2, 3)", x.pieceBound(2, 3), 4L);
        due.is("example 1: drawCount(20, 20)", x.drawCount(20, 20), 3L);
        due.is("example 1: drawPiece(20, 20, 0)", x.drawPiece(20, 20, 0), 2L);
        due.is("example 1: drawPiece(20, 20, 2)", x.drawPiece(20, 20, 2), 1L);
        due.is("example 1: locate(20, 20)", x.locate(20, 20), 0L);
        due.is("example 1: blocker(20, 20, 40, 20)", x.blocker(20, 20, 40, 20), 1L);
        due.is("example 1: blocker(20, 20, 20, 30)", x.blocker(20, 20, 20, 30), -8L);
        due.is("example 1: leastPieces()", x.leastPieces(), 3L);
        due.is("example 1: bestRoot()", x.bestRoot(), 0L);
        due.is("example 1: buildCount()", x.buildCount(), 1L);
    }

    /** Walls that are refused, a wall that is turned, and undoing. */
    private static void example2() {
        WallPartition x = new WallPartition();
        due.is("example 2: addWall(0, 0, 0, 0, 0, 0)", x.addWall(0, 0, 0, 0, 0, 0), -4L);
        due.is("example 2: addWall(0, 0, 64, 0, 3, 0)", x.addWall(0, 0, 64, 0, 3, 0), -2L);
        due.is("example 2: addWall(0, 0, 9, 0, 2, 0)", x.addWall(0, 0, 9, 0, 2, 0), 0L);
        due.is("example 2: turnWall(0)", x.turnWall(0), 2L);
        due.is("example 2: removeWall(3)", x.removeWall(3), -1L);
        due.is("example 2: pieceWall(1)", x.pieceWall(1), -6L);
        due.is("example 2: nodeChild(0, 2)", x.nodeChild(0, 2), -2L);
        due.is("example 2: nodeChild(0, 0)", x.nodeChild(0, 0), -8L);
        due.is("example 2: coordinate(0, 0)", x.coordinate(0, 0), 9L);
        due.is("example 2: undo()", x.undo(), 1L);
        due.is("example 2: undo()", x.undo(), 0L);
        due.is("example 2: undo()", x.undo(), -5L);
    }

    /** A one-way wall and a glass wall. */
    private static void example3() {
        WallPartition x = new WallPartition();
        due.is("example 3: addWall(20, 0, 20, 60, 2, 0)", x.addWall(20, 0, 20, 60, 2, 0), 0L);
        due.is("example 3: addWall(40, 60, 40, 0, 1, 0)", x.addWall(40, 60, 40, 0, 1, 0), 1L);
        due.is("example 3: columnWall(30, 30, -1, 0, 16)", x.columnWall(30, 30, -1, 0, 16), -8L);
        due.is("example 3: columnWall(10, 30, 1, 0, 16)", x.columnWall(10, 30, 1, 0, 16), 0L);
        due.is("example 3: columnDistance(10, 30, 1, 0, 16, 0)", x.columnDistance(10, 30, 1, 0, 16, 0), 5L);
        due.is("example 3: columnDistance(10, 30, 1, 0, 16, 1)", x.columnDistance(10, 30, 1, 0, 16, 1), 16L);
        due.is("example 3: paneCount(30, 30, 1, 0, 3)", x.paneCount(30, 30, 1, 0, 3), 1L);
        due.is("example 3: blocker(30, 30, 10, 30)", x.blocker(30, 30, 10, 30), -8L);
        due.is("example 3: blocker(10, 30, 30, 30)", x.blocker(10, 30, 30, 30), 0L);
        due.is("example 3: drawCount(30, 30)", x.drawCount(30, 30), 1L);
        due.is("example 3: drawCount(10, 30)", x.drawCount(10, 30), 2L);
        due.is("example 3: drawCount(20, 30)", x.drawCount(20, 30), 1L);
    }

    /** A wall from a text, and a fault. */
    private static void example4() {
        WallPartition x = new WallPartition();
        due.is("example 4: appendText(115)", x.appendText(115), 1L);
        due.is("example 4: appendText(49)", x.appendText(49), 2L);
        due.is("example 4: appendText(44)", x.appendText(44), 3L);
        due.is("example 4: appendText(50)", x.appendText(50), 4L);
        due.is("example 4: appendText(44)", x.appendText(44), 5L);
        due.is("example 4: appendText(51)", x.appendText(51), 6L);
        due.is("example 4: appendText(44)", x.appendText(44), 7L);
        due.is("example 4: appendText(52)", x.appendText(52), 8L);
        due.is("example 4: appendText(59)", x.appendText(59), 9L);
        due.is("example 4: load()", x.load(), 1L);
        due.is("example 4: appendText(103)", x.appendText(103), 10L);
        due.is("example 4: load()", x.load(), -9L);
        due.is("example 4: faultPlace()", x.faultPlace(), 10L);
        due.is("example 4: faultKind()", x.faultKind(), 1L);
        due.is("example 4: faultItem()", x.faultItem(), 1L);
        due.is("example 4: wallCount()", x.wallCount(), 1L);
    }

    /** A movable wall, distances, and a walk. */
    private static void example5() {
        WallPartition x = new WallPartition();
        due.is("example 5: addWall(8, 8, 16, 8, 0, 0)", x.addWall(8, 8, 16, 8, 0, 0), 0L);
        due.is("example 5: addWall(12, 8, 20, 8, 0, 1)", x.addWall(12, 8, 20, 8, 0, 1), 1L);
        due.is("example 5: nodeCount()", x.nodeCount(), 1L);
        due.is("example 5: pieceNode(1)", x.pieceNode(1), 0L);
        due.is("example 5: buildCount()", x.buildCount(), 1L);
        due.is("example 5: moveWall(1, 0, 4)", x.moveWall(1, 0, 4), 776L);
        due.is("example 5: nodeCount()", x.nodeCount(), 2L);
        due.is("example 5: buildCount()", x.buildCount(), 1L);
        due.is("example 5: nearestWall(14, 10)", x.nearestWall(14, 10), 0L);
        due.is("example 5: clearance(14, 10, 0)", x.clearance(14, 10, 0), 4L);
        due.is("example 5: walk(14, 9, 2, -2)", x.walk(14, 9, 2, -2), 1033L);
        due.is("example 5: pieceLength(0)", x.pieceLength(0), 8.0);
        due.is("example 5: meanLeafDepth()", x.meanLeafDepth(), 1.6666666666666667);
    }

    public static void main(String[] args) {
        example1();
        example2();
        example3();
        example4();
        example5();
        due.close("ExamplesTest");
    }
}
