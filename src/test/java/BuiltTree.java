import java.util.ArrayList;
import java.util.List;

/**
 * The walls and the tree that an object tells of after some calls. What a tree tells can need more
 * than 512 calls, so that each number is asked for on a new object after the same calls.
 */
final class BuiltTree {
    static final int LEAF = -8;

    /** No way from the root to a leaf has more nodes; a wrong tree must not lead on for ever. */
    static final int DEEPEST = 12;

    private final String script;
    final int[][] coordinates = new int[12][];
    final int[] kinds;
    final int[] nodeWalls;
    final int[] fronts;
    final int[] backs;
    final int[] depths;
    final int[] pieceWalls;
    final int[] pieceNodes;
    final int[][] bounds = new int[4][];

    BuiltTree(String script) {
        this.script = script;
        int nodes = ask("nodeCount()", 1)[0];
        int pieces = ask("pieceCount()", 1)[0];
        kinds = ask("kind(%)", 12);
        for (int wall = 0; wall < 12; wall++) {
            coordinates[wall] = ask("coordinate(" + wall + ", %)", 4);
        }
        nodeWalls = ask("nodeWall(%)", nodes);
        fronts = ask("nodeChild(%, 0)", nodes);
        backs = ask("nodeChild(%, 1)", nodes);
        depths = ask("nodeDepth(%)", nodes);
        pieceWalls = ask("pieceWall(%)", pieces);
        pieceNodes = ask("pieceNode(%)", pieces);
        for (int which = 0; which < 4; which++) {
            bounds[which] = ask("pieceBound(%, " + which + ")", pieces);
        }
    }

    /** What a call answers on a new object for each number from 0 on instead of the sign %. */
    int[] ask(String call, int count) {
        Edges.Room room = new Edges.Room(script);
        int[] answers = new int[count];
        for (int i = 0; i < count; i++) {
            answers[i] = room.call(call.replace("%", "" + i)).intValue();
        }
        return answers;
    }

    int nodes() {
        return nodeWalls.length;
    }

    int pieces() {
        return pieceWalls.length;
    }

    boolean isWall(int wall) {
        return kinds[wall] >= 0;
    }

    boolean isMovable(int wall) {
        return kinds[wall] >= 10;
    }

    /** As the document says it: the side value of a point for a wall. */
    long side(int wall, int px, int py) {
        int[] w = coordinates[wall];
        return (long) (w[2] - w[0]) * (py - w[1]) - (long) (w[3] - w[1]) * (px - w[0]);
    }

    /** The sign of the side value, for a wall, of the start (0) or the end (2) of a piece. */
    int signOfEnd(int wall, int piece, int end) {
        int[] w = coordinates[pieceWalls[piece]];
        long top = bounds[end][piece];
        long bottom = bounds[end + 1][piece];
        long atStart = side(wall, w[0], w[1]);
        long atEnd = side(wall, w[2], w[3]);
        return Long.signum(atStart * (bottom - top) + atEnd * top);
    }

    boolean isDrawn(int wall, int px, int py) {
        long side = side(wall, px, py);
        return side > 0 || (side < 0 && kinds[wall] % 10 != 2);
    }

    boolean isNode(int subtree) {
        return subtree >= 0 && subtree < nodes();
    }

    /** The nodes above a node, the root first. */
    List<Integer> above(int node) {
        List<Integer> path = new ArrayList<>();
        int at = 0;
        while (at != node && isNode(at) && path.size() < DEEPEST) {
            path.add(at);
            at = isInFront(at, node) ? fronts[at] : backs[at];
        }
        return path;
    }

    /** A subtree has the numbers from its top on, so that the back subtree follows the front one. */
    boolean isInFront(int top, int node) {
        return fronts[top] != LEAF && (backs[top] == LEAF || node < backs[top]);
    }
}
