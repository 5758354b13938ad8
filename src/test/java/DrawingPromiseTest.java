/** Promises 31 to 34: the back-to-front order and what is painted. */
public final class DrawingPromiseTest extends Promises {
    private static void promise31() {
        fresh();
        is("31: none", x.drawCount(0, 0), 0);
        threeWalls();
        is("31: all four pieces", x.drawCount(20, 30), 4);
        is("31: on the line of wall 0", x.drawCount(5, 20), 3);
        is("31: on the line of wall 1, which has two", x.drawCount(30, 63), 2);
        is("31: on both lines", x.drawCount(30, 20), 1);
        x.setKind(1, 1);
        is("31: glass is drawn", x.drawCount(20, 30), 4);
        x.setKind(1, 2);
        is("31: one-way, in front", x.drawCount(20, 30), 4);
        is("31: one-way, behind", x.drawCount(40, 30), 2);
        is("31: one-way, on its line", x.drawCount(30, 30), 2);
        int[][] bad = {{64, 0}, {-1, 0}, {0, 64}, {0, -1}, {LOW, 0}, {0, HIGH}};
        for (int[] b : bad) {
            is("31: bad value", x.drawCount(b[0], b[1]), -2);
        }
        is("31: corner", x.drawCount(63, 0), 2);
        is("31: corner", x.drawCount(0, 63), 4);
        fresh();
        x.addWall(10, 10, 11, 10, 2, 0);
        is("31: one-way with side value 1", x.drawCount(40, 11), 1);
        is("31: one-way with side value -1", x.drawCount(40, 9), 0);
        x.setKind(0, 0);
        is("31: solid with side value -1", x.drawCount(40, 9), 1);
    }

    private static void order(String what, int px, int py, int... pieces) {
        for (int i = 0; i < pieces.length; i++) {
            is(what + ", " + i, x.drawPiece(px, py, i), pieces[i]);
        }
        is(what + ", no more", x.drawPiece(px, py, pieces.length), -8);
        is(what + ", highest", x.drawPiece(px, py, HIGH), -8);
    }

    private static void promise32() {
        fresh();
        is("32: none", x.drawPiece(0, 0, 0), -8);
        threeWalls();
        // node 0 has its front above, node 2 its front to the left with node 3 in it
        order("32: left above", 20, 30, 2, 3, 0, 1);
        order("32: right above", 40, 30, 3, 2, 0, 1);
        order("32: left below", 20, 15, 1, 0, 2, 3);
        order("32: right below", 40, 5, 1, 0, 3, 2);
        order("32: on the line of wall 0 is in front", 5, 20, 2, 3, 1);
        order("32: on the line of wall 1 is in front", 30, 1, 0, 3);
        x.setKind(1, 2);
        order("32: one-way from behind", 40, 5, 0, 3);
        order("32: one-way from the front", 20, 15, 1, 0, 2, 3);
        fresh();
        x.addWall(10, 20, 20, 20, 2, 0);
        x.addWall(40, 20, 30, 20, 2, 0);
        x.addWall(50, 20, 60, 20, 1, 1);
        order("32: one list, in its order", 25, 40, 0, 2);
        order("32: one list, from behind", 25, 10, 1, 2);
        chain();
        order("32: from the first to the last", 60, 5, 0, 1, 2, 3, 4, 5, 6, 7, 8, 9, 10, 11);
        order("32: from the last to the first", 1, 5, 11, 10, 9, 8, 7, 6, 5, 4, 3, 2, 1, 0);
        order("32: without the one in whose line it is", 7, 5, 0, 1, 11, 10, 9, 8, 7, 6, 5, 4, 3);
        int[][] bad = {{64, 0, 0}, {-1, 0, 0}, {0, 64, 0}, {0, -1, 0}, {0, 0, -1}, {0, 0, LOW}};
        for (int[] b : bad) {
            is("32: bad value", x.drawPiece(b[0], b[1], b[2]), -2);
        }
        is("32: corner", x.drawPiece(63, 63, 0), 0);
    }

    private static void promise33() {
        fresh();
        is("33: none", x.paintCount(30, 30, 1, 0), 0);
        badPictures("33", (a, b) -> x.paintCount(a, b, 1, 0), (a, b) -> x.paintCount(9, 9, a, b));
        // from (30, 30) to the right, column c goes up by 31 - 2c in 32
        x.addWall(62, 31, 62, 29, 0, 0);
        is("33: columns 15 and 16, at both ends", x.paintCount(30, 30, 1, 0), 2);
        x.addWall(62, 31, 62, 29, 1, 1);
        is("33: glass counts too, at each wall", x.paintCount(30, 30, 1, 0), 4);
        x.setKind(1, 2);
        is("33: one-way from behind", x.paintCount(30, 30, 1, 0), 2);
        x.turnWall(1);
        is("33: one-way from the front", x.paintCount(30, 30, 1, 0), 4);
        is("33: nothing behind the eye", x.paintCount(30, 30, -1, 0), 0);
        x.addWall(40, 0, 40, 63, 0, 1);
        is("33: all 32 columns", x.paintCount(30, 30, 1, 0), 4 + 32);
        x.removeWall(2);
        is("33: the same picture, longer direction", x.paintCount(30, 30, 8, 0), 4);
        is("33: on the line of the walls", x.paintCount(62, 0, 0, 1), 0);
        fresh();
        x.addWall(20, 30, 40, 30, 0, 0);
        x.addWall(30, 20, 30, 40, 0, 1);
        // (14, 30) is on the line of wall 0; at wall 1 column c is (31 - 2c) / 2 higher than it
        is("33: two pieces with 10 columns each", x.paintCount(14, 30, 1, 0), 20);
        fresh();
        x.addWall(20, 31, 40, 31, 0, 0);
        x.addWall(62, 20, 62, 40, 0, 1);
        // wall 0 covers columns 0 to 13; wall 1, columns 11 to 20, is cut where column 15 hits it
        is("33: a cut position belongs to both parts", x.paintCount(30, 30, 1, 0), 14 + 10 + 1);
    }

    private static void promise34() {
        fresh();
        is("34: none", x.paintedPiece(30, 30, 1, 0, 0), -8);
        badPictures("34", (a, b) -> x.paintedPiece(a, b, 1, 0, 16),
                (a, b) -> x.paintedPiece(9, 9, a, b, 16));
        is("34: column 32", x.paintedPiece(30, 30, 1, 0, 32), -2);
        is("34: column -1", x.paintedPiece(30, 30, 1, 0, -1), -2);
        x.addWall(62, 31, 62, 29, 0, 0);
        x.addWall(46, 31, 46, 28, 0, 0);
        is("34: column 14 is above both", x.paintedPiece(30, 30, 1, 0, 14), -8);
        is("34: column 15 is on both, the near one is seen", x.paintedPiece(30, 30, 1, 0, 15), 1);
        is("34: column 17", x.paintedPiece(30, 30, 1, 0, 17), 1);
        is("34: wall 0 is the root", x.nodeWall(0), 0);
        x.setKind(1, 1);
        is("34: glass is not painted", x.paintedPiece(30, 30, 1, 0, 15), 0);
        is("34: only glass", x.paintedPiece(30, 30, 1, 0, 17), -8);
        x.setKind(1, 2);
        is("34: one-way from behind", x.paintedPiece(30, 30, 1, 0, 15), 0);
        x.turnWall(1);
        is("34: one-way from the front", x.paintedPiece(30, 30, 1, 0, 15), 1);
        fresh();
        x.addWall(20, 31, 40, 31, 0, 0);
        x.addWall(62, 20, 62, 40, 0, 1);
        piece(1, 1, 1, 11, 20, 1, 1);
        piece(2, 1, 2, 0, 1, 11, 20);
        is("34: where both parts meet, the near one", x.paintedPiece(30, 30, 1, 0, 15), 2);
        is("34: the far part behind wall 0", x.paintedPiece(30, 30, 1, 0, 13), 0);
    }

    public static void main(String[] args) {
        promise31();
        promise32();
        promise33();
        promise34();
        due.close("DrawingPromiseTest");
    }
}
