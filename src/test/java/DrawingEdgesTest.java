/** The boundary cases of promises 31 to 34: the back-to-front order and what is painted. */
public final class DrawingEdgesTest extends Edges {
    /** Side values for this wall tell how far a point is above 10. */
    private static final String SHORT = "setWeights(0, 0); addWall(10, 10, 11, 10, 0, 0) = 0;";

    /**
     * From (30, 32) to the right, column c is 63 - 2c high where x is 62. Wall 1 is cut there, by
     * the line of wall 0, where column 15 hits it: above is piece 1, below is piece 2.
     */
    private static final String CUT_AT_COLUMN_15 = "setWeights(0, 0); addWall(0, 33, 5, 33, 0, 0) = 0;"
            + "addWall(62, 40, 62, 20, 0, 0) = 1;";

    // ---- 31: drawCount

    static void promise31_pointsAreFrom0To63() {
        refusesBadPoints("drawCount(X, Y)");
        takesCorners("", "drawCount(X, Y)", 0);
        takesCorners("addWall(20, 20, 30, 40, 1, 1)", "drawCount(X, Y)", 1);
        holds("addWall(0, 0, 63, 63, 0, 0); drawCount(0, 0) = 0; drawCount(63, 63) = 0",
                "drawCount(0, 63) = 1; drawCount(63, 0) = 1; setKind(0, 2); drawCount(0, 63) = 1",
                "drawCount(63, 0) = 0");
    }

    static void promise31_withoutWallsThereIsNone() {
        holds("drawCount(9, 9) = 0");
    }

    static void promise31_aWallIsNotDrawnForAPointOnItsLine() {
        for (int kind = 0; kind < 3; kind++) {
            holds(SHORT, "setKind(0, " + kind + "); drawCount(40, 10) = 0; drawCount(10, 10) = 0",
                    "drawCount(0, 10) = 0; drawCount(40, 11) = 1; drawCount(10, 11) = 1",
                    "drawCount(40, 9) = " + (kind == 2 ? 0 : 1));
        }
        holds("addWall(0, 0, 63, 62, 0, 0); drawCount(1, 1) = 1; drawCount(0, 0) = 0",
                "drawCount(62, 61) = 1; setKind(0, 2); drawCount(1, 1) = 1; drawCount(62, 61) = 0");
    }

    static void promise31_eachPieceOfAWallCounts() {
        holds(CUT_AT_COLUMN_15, "drawCount(30, 32) = 3; drawCount(30, 33) = 2; drawCount(62, 5) = 1",
                "drawCount(62, 33) = 0");
        holds(walls(12, 1), "drawCount(63, 0) = 12; drawCount(11, 63) = 11");
    }

    // ---- 32: drawPiece

    static void promise32_pointsAreFrom0To63() {
        refusesBadPoints("drawPiece(X, Y, 0)");
        takesCorners("addWall(20, 20, 30, 40, 1, 1)", "drawPiece(X, Y, 0)", 0);
    }

    static void promise32_indexIs0OrMore() {
        refuses(SOME, "drawPiece(1, 1, %)", 0, Integer.MAX_VALUE, -2);
        holds(walls(2, 0), "drawPiece(5, 5, 0) = 0; drawPiece(5, 5, 1) = 1; drawPiece(5, 5, 2) = -8",
                "drawPiece(5, 5, HIGH) = -8");
        holds(walls(12, 1), "drawPiece(63, 5, 11) = 11; drawPiece(63, 5, 12) = -8");
        holds("drawPiece(5, 5, 0) = -8; drawPiece(5, 5, HIGH) = -8; drawPiece(5, 5, -1) = -2");
    }

    static void promise32_badValueIsReportedBeforeNone() {
        changesNothing("", "drawPiece(64, 0, 0) = -2");
        changesNothing("", "drawPiece(0, -1, HIGH) = -2");
        changesNothing("", "drawPiece(0, 0, LOW) = -2");
    }

    static void promise32_aPieceThatIsNotDrawnIsLeftOut() {
        holds(walls(3, 1), "drawPiece(1, 50, 0) = 0; drawPiece(1, 50, 1) = 2; drawPiece(1, 50, 2) = -8");
        holds(walls(3, 1), "setKind(1, 2); drawPiece(9, 9, 1) = 2; drawPiece(0, 9, 0) = 2",
                "drawPiece(0, 9, 1) = 1; drawPiece(0, 9, 2) = -8");
    }

    static void promise32_onTheLineIsInFront() {
        String walls = SHORT + "addWall(20, 30, 30, 30, 0, 1); addWall(20, 5, 30, 5, 0, 1);";
        holds(walls, "drawPiece(40, 11, 0) = 2; drawPiece(40, 11, 1) = 0; drawPiece(40, 11, 2) = 1");
        holds(walls, "drawPiece(40, 10, 0) = 2; drawPiece(40, 10, 1) = 1; drawPiece(40, 10, 2) = -8");
        holds(walls, "drawPiece(40, 9, 0) = 1; drawPiece(40, 9, 1) = 0; drawPiece(40, 9, 2) = 2");
    }

    static void promise32_theListKeepsItsOrderFromBothSides() {
        String walls = "addWall(5, 20, 9, 20, 0, 0); addWall(19, 20, 15, 20, 0, 0);"
                + "addWall(30, 20, 35, 20, 1, 1);";
        holds(walls, "drawPiece(9, 9, 0) = 0; drawPiece(9, 9, 1) = 1; drawPiece(9, 9, 2) = 2");
        holds(walls, "drawPiece(9, 30, 0) = 0; drawPiece(9, 30, 1) = 1; drawPiece(9, 30, 2) = 2");
    }

    // ---- 33: paintCount

    static void promise33_pointsAreFrom0To63() {
        refusesBadPoints("paintCount(X, Y, 1, 1)");
        takesCorners("", "paintCount(X, Y, 1, 1)", 0);
        holds("addWall(20, 0, 20, 63, 0, 0); paintCount(0, 0, 8, 8) = 24; paintCount(63, 63, -8, -8) = 19");
    }

    static void promise33_directionsAreFromMinus8To8() {
        refusesBadDirections("paintCount(9, 9, DX, DY)");
        takesDirections("", "paintCount(9, 9, DX, DY)", 0);
    }

    static void promise33_dxAndDyAreNotBoth0() {
        changesNothing(SOME, "paintCount(9, 9, 0, 0) = -2");
        changesNothing("", "paintCount(9, 9, 0, 0) = -2");
        holds("addWall(20, 0, 20, 63, 0, 0); paintCount(30, 30, -1, 0) = 32; paintCount(30, 30, 1, 0) = 0",
                "paintCount(10, 30, 1, 0) = 32; paintCount(10, 30, 0, 1) = 11; paintCount(10, 30, 0, -1) = 11");
    }

    private static void covered(int from, int to, int columns) {
        holds("addWall(62, " + from + ", 62, " + to + ", 0, 0); paintCount(30, 32, 1, 0) = " + columns);
        holds("addWall(62, " + to + ", 62, " + from + ", 1, 1); paintCount(30, 32, 1, 0) = " + columns);
    }

    static void promise33_bothEndsOfAPieceAreIncluded() {
        covered(1, 63, 32);
        covered(2, 63, 31);
        covered(1, 62, 31);
        covered(2, 62, 30);
        covered(0, 1, 1);
        covered(31, 33, 2);
        covered(31, 32, 1);
        covered(32, 33, 1);
        holds("addWall(61, 32, 62, 32, 0, 0); paintCount(30, 32, 1, 0) = 0");
    }

    static void promise33_aCutBelongsToBothParts() {
        holds(CUT_AT_COLUMN_15, "paintCount(30, 32, 1, 0) = 11");
        holds(CUT_AT_COLUMN_15, "moveWall(0, 0, 1); paintCount(30, 32, 1, 0) = 10");
        holds(CUT_AT_COLUMN_15, "moveWall(0, 0, -1); paintCount(30, 32, 1, 0) = 10");
        holds(CUT_AT_COLUMN_15, "moveWall(0, 0, -2); paintCount(30, 32, 1, 0) = 11");
    }

    static void promise33_nothingIsHitBehindTheEye() {
        holds("addWall(29, 0, 29, 63, 0, 0); paintCount(30, 32, 1, 0) = 0; paintCount(30, 32, -1, 0) = 32");
        holds("addWall(31, 0, 31, 63, 0, 0); paintCount(30, 32, 1, 0) = 32; paintCount(30, 32, -1, 0) = 0");
    }

    static void promise33_onlyDrawnPiecesCount() {
        String wall = "addWall(40, 63, 40, 0, 2, 0);";
        holds(wall, "paintCount(50, 32, -1, 0) = 32; paintCount(30, 32, 1, 0) = 0; setKind(0, 1)",
                "paintCount(30, 32, 1, 0) = 32; setKind(0, 0); paintCount(30, 32, 1, 0) = 32",
                "paintCount(40, 32, 1, 0) = 0; paintCount(40, 32, 0, 1) = 0");
    }

    static void promise33_isASumOverAllPieces() {
        holds(each("addWall(40, 0, 40, 63, 0, 1) = %", 0, 11), "paintCount(30, 32, 1, 0) = 384");
        holds(each("addWall(40, 0, 40, 63, 1, 0) = %", 0, 11), "paintCount(30, 32, 1, 0) = 384");
    }

    // ---- 34: paintedPiece

    static void promise34_pointsAreFrom0To63() {
        refusesBadPoints("paintedPiece(X, Y, 1, 1, 5)");
        takesCorners("", "paintedPiece(X, Y, 1, 1, 5)", -8);
        holds("addWall(20, 0, 20, 63, 0, 0); paintedPiece(0, 0, 8, 8, 16) = 0",
                "paintedPiece(63, 63, -8, -8, 15) = 0");
    }

    static void promise34_directionsAreFromMinus8To8() {
        refusesBadDirections("paintedPiece(9, 9, DX, DY, 5)");
        takesDirections("", "paintedPiece(9, 9, DX, DY, 5)", -8);
    }

    static void promise34_dxAndDyAreNotBoth0() {
        changesNothing(SOME, "paintedPiece(9, 9, 0, 0, 5) = -2");
        changesNothing("", "paintedPiece(9, 9, 0, 0, 5) = -2");
    }

    static void promise34_columnsAreFrom0To31() {
        refuses(SOME, "paintedPiece(30, 32, 1, 0, %)", 0, 31, -2);
        refuses("", "paintedPiece(30, 32, 1, 0, %)", 0, 31, -2);
        holds("addWall(62, 63, 62, 62, 0, 0); paintedPiece(30, 32, 1, 0, 0) = 0",
                "paintedPiece(30, 32, 1, 0, 1) = -8; paintedPiece(30, 32, 1, 0, 31) = -8");
        holds("addWall(62, 1, 62, 0, 0, 0); paintedPiece(30, 32, 1, 0, 31) = 0",
                "paintedPiece(30, 32, 1, 0, 30) = -8; paintedPiece(30, 32, 1, 0, 0) = -8");
    }

    static void promise34_whereNothingIsPaintedThereIsNone() {
        holds("paintedPiece(30, 32, 1, 0, 9) = -8");
        holds("addWall(40, 63, 40, 0, 2, 0); paintedPiece(30, 32, 1, 0, 9) = -8",
                "paintedPiece(50, 32, -1, 0, 9) = 0; paintedPiece(40, 32, 1, 0, 9) = -8",
                "paintedPiece(50, 32, 1, 0, 9) = -8");
    }

    static void promise34_glassIsNotPainted() {
        holds("addWall(40, 0, 40, 63, 1, 0); paintedPiece(30, 32, 1, 0, 9) = -8; setKind(0, 0)",
                "paintedPiece(30, 32, 1, 0, 9) = 0; addWall(50, 0, 50, 63, 0, 0)",
                "paintedPiece(30, 32, 1, 0, 9) = 0; setKind(0, 1); paintedPiece(30, 32, 1, 0, 9) = 1",
                "paintCount(30, 32, 1, 0) = 64");
    }

    static void promise34_theLastOneIsSeen() {
        holds(CUT_AT_COLUMN_15, "paintedPiece(30, 32, 1, 0, 15) = 2; paintedPiece(30, 32, 1, 0, 14) = 1",
                "paintedPiece(30, 32, 1, 0, 16) = 2; paintedPiece(30, 34, 1, 0, 16) = 1");
        holds("addWall(40, 0, 40, 63, 0, 0); addWall(40, 63, 40, 0, 0, 0)",
                "paintedPiece(30, 32, 1, 0, 9) = 1; columnWall(30, 32, 1, 0, 9) = 0");
    }

    static void promise34_bothEndsOfAPieceAreIncluded() {
        holds("addWall(62, 33, 62, 31, 0, 0)", "paintedPiece(30, 32, 1, 0, 14) = -8",
                "paintedPiece(30, 32, 1, 0, 15) = 0; paintedPiece(30, 32, 1, 0, 16) = 0",
                "paintedPiece(30, 32, 1, 0, 17) = -8");
    }

    public static void main(String[] args) throws Exception {
        runAll(DrawingEdgesTest.class, 31, 34);
    }
}
