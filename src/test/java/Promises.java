import java.util.function.IntBinaryOperator;

/**
 * What the tests of the promises share. Each promise has ordinary calls, the edges that the
 * document names, and wrong arguments; what is due was worked out from the document.
 */
abstract class Promises {
    static final int LOW = Integer.MIN_VALUE;
    static final int HIGH = Integer.MAX_VALUE;
    static final Due due = new Due();
    static WallPartition x;

    static void fresh() {
        x = new WallPartition();
    }

    static void is(String what, long got, long want) {
        due.is(what, got, want);
    }

    static void text(String text) {
        x.clearText();
        for (int i = 0; i < text.length(); i++) {
            x.appendText(text.charAt(i));
        }
    }

    /** Loads a text that has a fault and asks what fault it is. */
    static void fault(String text, int place, int kind, int item) {
        text(text);
        is("load of " + text, x.load(), -9);
        is("faultPlace of " + text, x.faultPlace(), place);
        is("faultKind of " + text, x.faultKind(), kind);
        is("faultItem of " + text, x.faultItem(), item);
    }

    static void wall(int number, int x1, int y1, int x2, int y2, int kind) {
        is("x1 of " + number, x.coordinate(number, 0), x1);
        is("y1 of " + number, x.coordinate(number, 1), y1);
        is("x2 of " + number, x.coordinate(number, 2), x2);
        is("y2 of " + number, x.coordinate(number, 3), y2);
        is("kind of " + number, x.kind(number), kind);
    }

    static void piece(int piece, int wall, int node, int a, int b, int c, int d) {
        is("pieceWall " + piece, x.pieceWall(piece), wall);
        is("pieceNode " + piece, x.pieceNode(piece), node);
        is("pieceBound " + piece + ", 0", x.pieceBound(piece, 0), a);
        is("pieceBound " + piece + ", 1", x.pieceBound(piece, 1), b);
        is("pieceBound " + piece + ", 2", x.pieceBound(piece, 2), c);
        is("pieceBound " + piece + ", 3", x.pieceBound(piece, 3), d);
    }

    static void node(int node, int wall, int depth, int front, int back) {
        is("nodeWall " + node, x.nodeWall(node), wall);
        is("nodeDepth " + node, x.nodeDepth(node), depth);
        is("front of " + node, x.nodeChild(node, 0), front);
        is("back of " + node, x.nodeChild(node, 1), back);
    }

    /** A wall, a wall that crosses it, and one behind it: 0 -> (1 | 2, 1). */
    static void threeWalls() {
        fresh();
        x.addWall(10, 20, 50, 20, 0, 0);
        x.addWall(30, 5, 30, 40, 0, 0);
        x.addWall(10, 10, 20, 10, 0, 0);
    }

    /** Twelve movable walls behind each other: each node has one wall and is behind the last. */
    static void chain() {
        fresh();
        for (int i = 0; i < 12; i++) {
            x.addWall(5 + i, 0, 5 + i, 9, 0, 1);
        }
    }

    static void badPictures(String what, IntBinaryOperator atPoint,
            IntBinaryOperator toDirection) {
        int[][] points = {{64, 0}, {-1, 0}, {0, 64}, {0, -1}, {LOW, 5}, {5, HIGH}};
        for (int[] p : points) {
            is(what + " at " + p[0] + ", " + p[1], atPoint.applyAsInt(p[0], p[1]), -2);
        }
        int[][] ways = {{9, 0}, {-9, 0}, {0, 9}, {0, -9}, {0, 0}, {LOW, 1}, {1, HIGH}};
        for (int[] w : ways) {
            is(what + " to " + w[0] + ", " + w[1], toDirection.applyAsInt(w[0], w[1]), -2);
        }
        int[][] good = {{0, 0}, {63, 63}, {0, 63}, {63, 0}};
        for (int[] p : good) {
            due.isTrue(what + " at a corner", atPoint.applyAsInt(p[0], p[1]) != -2);
        }
        int[][] goodWays = {{8, 8}, {-8, -8}, {0, 1}, {1, 0}, {0, -8}, {8, 0}};
        for (int[] w : goodWays) {
            due.isTrue(what + " in a good way", toDirection.applyAsInt(w[0], w[1]) != -2);
        }
    }
}
