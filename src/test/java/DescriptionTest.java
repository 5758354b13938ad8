import java.util.ArrayList;
import java.util.List;

/**
 * Sentences of the description that are no boundary case: the line of a wall, pieces, the tree,
 * the back-to-front order and the rays of a picture. Each has a test of its own, which works on
 * small rooms by hand, or asks what must hold for every tree.
 */
public final class DescriptionTest extends Edges {
    private static final String[] ROOMS = rooms();

    private static String[] rooms() {
        List<String> rooms = new ArrayList<>();
        rooms.add("");
        rooms.add("addWall(10, 20, 50, 20, 0, 0)");
        rooms.add("addWall(10, 20, 50, 20, 1, 1)");
        rooms.add("addWall(10, 20, 50, 20, 0, 0); addWall(30, 5, 30, 40, 2, 0); addWall(10, 10, 20, 10, 0, 0)");
        rooms.add(walls(12, 0));
        rooms.add(walls(12, 1));
        for (int fixed = 0; fixed <= 12; fixed += 4) {
            rooms.add(crossing(fixed));
        }
        long state = 20261120;
        for (int i = 0; i < 24; i++) {
            // on a coarse grid more walls touch, overlap and lie on one line
            int step = new int[] {1, 9, 21}[i % 3];
            StringBuilder room = new StringBuilder("setWeights(" + i % 10 + ", " + i % 7 + ");");
            for (int wall = 0; wall < 6 + i % 7; wall++) {
                room.append("addWall(");
                for (int which = 0; which < 4; which++) {
                    state = (1103515245 * state + 12345) % 2147483648L;
                    room.append(state / 65536 % (63 / step + 1) * step).append(", ");
                }
                room.append(wall % 3).append(", ").append((wall + i) % 4 == 0 ? 1 : 0).append(");");
            }
            rooms.add(room.toString());
        }
        return rooms.toArray(new String[0]);
    }

    /** Twelve walls, each of which crosses all others; the last ones are movable. */
    private static String crossing(int fixed) {
        StringBuilder calls = new StringBuilder();
        for (int i = 0; i < 12; i++) {
            calls.append("addWall(" + i + ", 0, " + (63 - 5 * i) + ", " + (63 - i) + ", " + i % 3 + ", "
                    + (i < fixed ? 0 : 1) + ");");
        }
        return calls.toString();
    }

    private static long divisor(long a, long b) {
        return b == 0 ? Math.abs(a) : divisor(b, a % b);
    }

    // ---- Walls

    /** Points around a wall, for walls in all directions: locate tells behind, drawCount on the line. */
    static void walls_theSideValueTellsFrontBehindAndOnTheLine() {
        int[][] ways = {{4, 0}, {0, 4}, {-4, 0}, {0, -4}, {4, 2}, {2, 4}, {-2, 4}, {-4, 2}, {-4, -2},
            {-2, -4}, {2, -4}, {4, -2}, {3, 3}, {-3, 3}, {1, -1}};
        for (int[] way : ways) {
            Room room = new Room("addWall(30, 30, " + (30 + way[0]) + ", " + (30 + way[1]) + ", 0, 0)");
            for (int px = 24; px <= 36; px += 2) {
                for (int py = 24; py <= 36; py += 2) {
                    int side = way[0] * (py - 30) - way[1] * (px - 30);
                    room.run("locate(" + px + ", " + py + ") = " + (side < 0 ? 1 : 0)
                            + "; drawCount(" + px + ", " + py + ") = " + (side == 0 ? 0 : 1));
                }
            }
        }
    }

    /** Up is in front of a wall that leads to the right. */
    static void walls_frontIsOnTheLeftOfTheWayAlongTheWall() {
        holds("addWall(10, 10, 20, 10, 0, 0); locate(15, 11) = 0; locate(15, 9) = 1");
        holds("addWall(20, 10, 10, 10, 0, 0); locate(15, 11) = 1; locate(15, 9) = 0");
        holds("addWall(10, 10, 10, 20, 0, 0); locate(9, 15) = 0; locate(11, 15) = 1");
        holds("addWall(10, 20, 10, 10, 0, 0); locate(9, 15) = 1; locate(11, 15) = 0");
    }

    // ---- Pieces

    static void pieces_aIsLessThanBAndBothAreInLowestTerms() {
        for (String room : ROOMS) {
            BuiltTree tree = new BuiltTree(room);
            for (int piece = 0; piece < tree.pieces(); piece++) {
                long a = tree.bounds[0][piece];
                long underA = tree.bounds[1][piece];
                long b = tree.bounds[2][piece];
                long underB = tree.bounds[3][piece];
                isTrue("denominators", underA > 0 && underB > 0);
                isTrue("from 0 to 1", a >= 0 && b <= underB);
                isTrue("a is less than b", a * underB < b * underA);
                isTrue("lowest terms", divisor(a, underA) == 1 && divisor(b, underB) == 1);
            }
        }
    }

    /** Whatever is cut, nothing of a wall gets lost, and nothing is there twice. */
    static void pieces_thePiecesOfAWallMakeTheWholeWall() {
        for (String room : ROOMS) {
            BuiltTree tree = new BuiltTree(room);
            int used = 0;
            for (int wall = 0; wall < 12; wall++) {
                long top = 0;
                long bottom = 1;
                for (int count = 0; count < tree.pieces(); count++) {
                    int piece = pieceFrom(tree, wall, top, bottom);
                    if (piece >= 0) {
                        top = tree.bounds[2][piece];
                        bottom = tree.bounds[3][piece];
                        used++;
                    }
                }
                isTrue("wall " + wall + " of " + room, top == (tree.isWall(wall) ? 1 : 0) && bottom == 1);
            }
            is("no piece is left over", used, tree.pieces());
        }
    }

    private static int pieceFrom(BuiltTree tree, int wall, long top, long bottom) {
        for (int piece = 0; piece < tree.pieces(); piece++) {
            if (tree.pieceWalls[piece] == wall && tree.bounds[0][piece] == top
                    && tree.bounds[1][piece] == bottom) {
                return piece;
            }
        }
        return -1;
    }

    /** A bound inside a wall is A / (A - B) for the splitting wall of a node above the piece. */
    static void pieces_aCutIsWhereTheSideValueIs0() {
        for (String room : ROOMS) {
            BuiltTree tree = new BuiltTree(room);
            for (int piece = 0; piece < tree.pieces(); piece++) {
                for (int end = 0; end <= 2; end += 2) {
                    long top = tree.bounds[end][piece];
                    long bottom = tree.bounds[end + 1][piece];
                    isTrue("a cut of piece " + piece + " of " + room, top == 0 || top == bottom
                            || isCutAbove(tree, piece, top, bottom));
                }
            }
        }
    }

    private static boolean isCutAbove(BuiltTree tree, int piece, long top, long bottom) {
        int[] wall = tree.coordinates[tree.pieceWalls[piece]];
        for (int node : tree.above(tree.pieceNodes[piece])) {
            long a = tree.side(tree.nodeWalls[node], wall[0], wall[1]);
            long b = tree.side(tree.nodeWalls[node], wall[2], wall[3]);
            if (top * (a - b) == a * bottom && a != b) {
                return true;
            }
        }
        return false;
    }

    // ---- The tree

    static void tree_aNodeHasPiecesOnTheLineOfItsSplittingWallAndOneOfThisWall() {
        for (String room : ROOMS) {
            BuiltTree tree = new BuiltTree(room);
            boolean[] hasOwn = new boolean[tree.nodes()];
            for (int piece = 0; piece < tree.pieces(); piece++) {
                int node = tree.pieceNodes[piece];
                int wall = tree.nodeWalls[node];
                hasOwn[node] = hasOwn[node] || tree.pieceWalls[piece] == wall;
                is("piece " + piece + " of " + room, tree.signOfEnd(wall, piece, 0), 0);
                is("piece " + piece + " of " + room, tree.signOfEnd(wall, piece, 2), 0);
            }
            for (int node = 0; node < tree.nodes(); node++) {
                isTrue("node " + node + " of " + room, hasOwn[node]);
            }
        }
    }

    /** Above each piece, it is in front of the walls in whose front subtree it is, and so on. */
    static void tree_theFrontSubtreeHasThePiecesInFrontAndTheBackSubtreeThoseBehind() {
        for (String room : ROOMS) {
            BuiltTree tree = new BuiltTree(room);
            for (int piece = 0; piece < tree.pieces(); piece++) {
                for (int node : tree.above(tree.pieceNodes[piece])) {
                    int due = tree.isInFront(node, tree.pieceNodes[piece]) ? 1 : -1;
                    int start = due * tree.signOfEnd(tree.nodeWalls[node], piece, 0);
                    int end = due * tree.signOfEnd(tree.nodeWalls[node], piece, 2);
                    isTrue("piece " + piece + " below node " + node + " of " + room,
                            start >= 0 && end >= 0 && start + end > 0);
                }
            }
            is("no node is without a tree", tree.nodes() == 0 ? 0 : 1, tree.pieces() == 0 ? 0 : 1);
        }
    }

    static void tree_aNodeIsNumberedBeforeItsFrontSubtreeAndThisBeforeItsBackSubtree() {
        for (String room : ROOMS) {
            BuiltTree tree = new BuiltTree(room);
            int root = tree.nodes() > 0 ? 0 : BuiltTree.LEAF;
            is("nodes of " + room, endOfSubtree(tree, root, 0, 0), tree.nodes());
        }
    }

    /** The number behind the last one of a subtree that begins with this number. */
    private static int endOfSubtree(BuiltTree tree, int subtree, int number, int depth) {
        if (subtree == BuiltTree.LEAF) {
            return number;
        }
        is("the number of a node", subtree, number);
        if (subtree != number || !tree.isNode(subtree) || depth >= BuiltTree.DEEPEST) {
            return number;
        }
        is("the depth of a node", tree.depths[number], depth);
        int back = endOfSubtree(tree, tree.fronts[number], number + 1, depth + 1);
        return endOfSubtree(tree, tree.backs[number], back, depth + 1);
    }

    /** The depths of the leaves of a subtree, in their order. */
    private static List<Integer> leaves(BuiltTree tree, int subtree, int depth) {
        List<Integer> depths = new ArrayList<>();
        if (!tree.isNode(subtree) || depth >= BuiltTree.DEEPEST) {
            depths.add(depth);
        } else {
            depths.addAll(leaves(tree, tree.fronts[subtree], depth + 1));
            depths.addAll(leaves(tree, tree.backs[subtree], depth + 1));
        }
        return depths;
    }

    private static int leafAt(BuiltTree tree, int px, int py) {
        int subtree = 0;
        int leaf = 0;
        for (int depth = 0; tree.isNode(subtree) && depth < BuiltTree.DEEPEST; depth++) {
            boolean behind = tree.side(tree.nodeWalls[subtree], px, py) < 0;
            leaf += behind ? leaves(tree, tree.fronts[subtree], depth + 1).size() : 0;
            subtree = behind ? tree.backs[subtree] : tree.fronts[subtree];
        }
        return leaf;
    }

    static void tree_theLeavesOfTheFrontSubtreeAreNumberedBeforeThoseOfTheBackSubtree() {
        for (String script : ROOMS) {
            BuiltTree tree = new BuiltTree(script);
            Room room = new Room(script);
            for (int px = 0; px < 64; px += 7) {
                for (int py = 0; py < 64; py += 7) {
                    room.run("locate(" + px + ", " + py + ") = " + leafAt(tree, px, py));
                }
            }
        }
    }

    static void tree_theDepthOfALeafIsTheNumberOfNodesAboveIt() {
        for (String room : ROOMS) {
            List<Integer> depths = leaves(new BuiltTree(room), 0, 0);
            double sum = depths.stream().mapToInt(Integer::intValue).sum();
            holds(room, "meanLeafDepth() = " + sum / depths.size());
        }
    }

    static void tree_thePiecesAreNumberedByTheirNodesAndThenByTheList() {
        for (String room : ROOMS) {
            BuiltTree tree = new BuiltTree(room);
            for (int piece = 1; piece < tree.pieces(); piece++) {
                int before = tree.pieceNodes[piece - 1];
                isTrue("the next piece", tree.pieceNodes[piece] == before
                        || tree.pieceNodes[piece] == before + 1);
                if (tree.pieceNodes[piece] == before) {
                    isTrue("the next one of the list", rank(tree, piece - 1) < rank(tree, piece));
                }
            }
        }
    }

    /** Fixed walls come before movable ones, and each of them by their numbers. */
    private static int rank(BuiltTree tree, int piece) {
        int wall = tree.pieceWalls[piece];
        return wall + (tree.isMovable(wall) ? 100 : 0);
    }

    /** Walls 1, 2 and 4 are on one line; wall 0 cuts wall 2. */
    static void tree_allListsKeepTheOrderOfTheGivenList() {
        String walls = "setWeights(0, 0); addWall(0, 20, 10, 20, 0, 0); addWall(30, 50, 30, 60, 0, 0);"
                + "addWall(30, 10, 30, 30, 0, 0); addWall(60, 5, 60, 6, 0, 0);"
                + "addWall(30, 35, 30, 22, 0, 0)";
        holds(walls, "pieceCount() = 6; nodeWall(0) = 0; nodeWall(1) = 1; nodeWall(2) = 2; nodeWall(3) = 3",
                "pieceWall(1) = 1; pieceWall(2) = 2; pieceWall(3) = 4; pieceNode(3) = 1",
                "pieceBound(2, 0) = 1; pieceBound(2, 1) = 2; pieceWall(4) = 2; pieceNode(4) = 2",
                "pieceWall(5) = 3");
        holds(walls.replace("0, 0, 10", "0, 20, 10"), "turnWall(0); nodeWall(1) = 2; pieceWall(1) = 2",
                "pieceWall(2) = 3; pieceNode(2) = 2; pieceWall(3) = 1; pieceWall(4) = 2; pieceWall(5) = 4",
                "pieceNode(3) = 3; pieceNode(5) = 3");
    }

    static void tree_movableWallsAreInsertedInAscendingOrderAfterTheFixedOnes() {
        String first = "addWall(10, 30, 20, 30, 0, 1); addWall(10, 20, 20, 20, 0, 0);";
        holds(first, "addWall(10, 40, 20, 40, 0, 1); nodeWall(0) = 1; nodeWall(1) = 0; nodeWall(2) = 2",
                "nodeChild(0, 0) = 1; nodeChild(1, 0) = 2; nodeChild(1, 1) = -8; nodeChild(0, 1) = -8");
        holds(first, "addWall(10, 25, 20, 25, 0, 1); nodeWall(0) = 1; nodeWall(1) = 0; nodeWall(2) = 2",
                "nodeChild(0, 0) = 1; nodeChild(1, 0) = -8; nodeChild(1, 1) = 2; nodeChild(0, 1) = -8");
        holds(first, "addWall(10, 40, 20, 40, 0, 0); nodeWall(0) = 1; nodeWall(1) = 2; nodeWall(2) = 0",
                "nodeChild(1, 0) = -8; nodeChild(1, 1) = 2");
    }

    static void tree_movableWallsAreCutByMovableWalls() {
        String walls = "addWall(10, 20, 50, 20, 0, 1); addWall(30, 0, 30, 40, 0, 1);";
        holds(walls, "pieceCount() = 3; nodeWall(0) = 0; nodeWall(1) = 1; nodeWall(2) = 1; buildCount() = 0",
                "pieceBound(1, 0) = 1; pieceBound(1, 1) = 2; pieceBound(2, 2) = 1; pieceBound(2, 3) = 2");
        holds(walls, "addWall(20, 10, 40, 30, 0, 1); pieceCount() = 5; nodeCount() = 5; pieceWall(2) = 2",
                "pieceNode(2) = 2; pieceWall(4) = 2; pieceNode(4) = 4; pieceBound(2, 0) = 1; pieceBound(2, 1) = 2");
    }

    /** A price would make wall 1 the root of these, and so it does if they are fixed. */
    static void tree_aMovableWallBecomesANodeWhateverItsPrice() {
        String walls = "addWall(5, 0, 5, 9, 0, M); addWall(6, 0, 6, 9, 0, M); addWall(7, 0, 7, 9, 0, M);";
        holds(walls.replace("M", "0"), "nodeWall(0) = 1");
        holds(walls.replace("M", "1"), "nodeWall(0) = 0; nodeWall(1) = 1; nodeWall(2) = 2");
        holds(walls.replace("M", "1"), "addWall(1, 0, 1, 9, 0, 0); nodeWall(0) = 3; nodeWall(1) = 0");
    }

    // ---- Drawing

    static void drawing_theOrderIsThatOfTheTree() {
        for (String script : ROOMS) {
            BuiltTree tree = new BuiltTree(script);
            int[][] points = {{1, 1}, {62, 5}, {30, 33}, {21, 42}, {9, 54}};
            for (int[] p : points) {
                List<Integer> order = new ArrayList<>();
                addOrder(tree, 0, 0, p, order);
                Room room = new Room(script);
                String point = "(" + p[0] + ", " + p[1];
                room.run("drawCount" + point + ") = " + order.size());
                for (int index = 0; index < order.size(); index++) {
                    room.run("drawPiece" + point + ", " + index + ") = " + order.get(index));
                }
                room.run("drawPiece" + point + ", " + order.size() + ") = -8");
            }
        }
    }

    private static void addOrder(BuiltTree tree, int subtree, int depth, int[] p, List<Integer> order) {
        if (!tree.isNode(subtree) || depth >= BuiltTree.DEEPEST) {
            return;
        }
        boolean behind = tree.side(tree.nodeWalls[subtree], p[0], p[1]) < 0;
        int front = tree.fronts[subtree];
        int back = tree.backs[subtree];
        addOrder(tree, behind ? front : back, depth + 1, p, order);
        for (int piece = 0; piece < tree.pieces(); piece++) {
            if (tree.pieceNodes[piece] == subtree && tree.isDrawn(tree.pieceWalls[piece], p[0], p[1])) {
                order.add(piece);
            }
        }
        addOrder(tree, behind ? back : front, depth + 1, p, order);
    }

    /**
     * From a point on no wall's line, what is painted last on a column is a nearest wall: what the
     * first hit finds with distances, the tree finds without them.
     */
    static void drawing_whatIsPaintedLastIsTheNearest() {
        for (String script : ROOMS) {
            BuiltTree tree = new BuiltTree(script);
            int[][] pictures = {{1, 2, 1, 1}, {31, 32, -1, 0}, {44, 13, -3, 8}, {50, 61, 0, -7}};
            for (int[] p : pictures) {
                boolean onALine = false;
                for (int wall = 0; wall < 12; wall++) {
                    onALine = onALine || (tree.isWall(wall) && tree.side(wall, p[0], p[1]) == 0);
                }
                if (onALine) {
                    continue;
                }
                Room room = new Room(script);
                String picture = "(" + p[0] + ", " + p[1] + ", " + p[2] + ", " + p[3] + ", ";
                for (int column = 0; column < 32; column++) {
                    int piece = room.call("paintedPiece" + picture + column + ")").intValue();
                    int hit = room.call("columnWall" + picture + column + ")").intValue();
                    isTrue(script + picture + column, piece < 0 ? hit == -8
                            : isAsNear(tree, p, column, tree.pieceWalls[piece], hit));
                }
            }
        }
    }

    private static boolean isAsNear(BuiltTree tree, int[] p, int column, int wall, int other) {
        if (wall == other || other < 0) {
            return wall == other;
        }
        long[] one = distance(tree.coordinates[wall], p, column);
        long[] two = distance(tree.coordinates[other], p, column);
        return one[0] * two[1] == two[0] * one[1];
    }

    /** The distance of the line of a wall, which the ray of the column hits. */
    private static long[] distance(int[] w, int[] p, int column) {
        long wayX = 32 * p[2] - (31 - 2 * column) * p[3];
        long wayY = 32 * p[3] + (31 - 2 * column) * p[2];
        long top = (w[0] - p[0]) * (long) (w[3] - w[1]) - (w[1] - p[1]) * (long) (w[2] - w[0]);
        return new long[] {top, wayX * (w[3] - w[1]) - wayY * (w[2] - w[0])};
    }

    // ---- Rays

    /** Four walls around the room: which one a column hits, and where, tells its direction. */
    static void rays_eachColumnHasItsDirection() {
        String around = "addWall(0, 0, 63, 0, 0, 0); addWall(63, 0, 63, 63, 0, 0);"
                + "addWall(63, 63, 0, 63, 0, 1); addWall(0, 63, 0, 0, 2, 0);";
        for (int dx = -8; dx <= 8; dx++) {
            for (int dy = -8; dy <= 8; dy++) {
                if (dx == 0 && dy == 0) {
                    continue;
                }
                Room room = new Room(around);
                for (int column = 0; column < 32; column++) {
                    int wayX = 32 * dx - (31 - 2 * column) * dy;
                    int wayY = 32 * dy + (31 - 2 * column) * dx;
                    hitsAround(room, "(20, 25, " + dx + ", " + dy + ", " + column, wayX, wayY);
                }
            }
        }
    }

    /** From (20, 25): the first of the walls below, right, above and left, by their distances. */
    private static void hitsAround(Room room, String column, int wayX, int wayY) {
        int[] gaps = {wayY < 0 ? 25 : 0, wayX > 0 ? 43 : 0, wayY > 0 ? 38 : 0, wayX < 0 ? 20 : 0};
        int[] speeds = {-wayY, wayX, wayY, -wayX};
        int first = -1;
        for (int wall = 0; wall < 4; wall++) {
            if (gaps[wall] > 0 && (first < 0
                    || gaps[wall] * speeds[first] < gaps[first] * speeds[wall])) {
                first = wall;
            }
        }
        int divisor = (int) divisor(gaps[first], speeds[first]);
        room.run("columnWall" + column + ") = " + first
                + "; columnDistance" + column + ", 0) = " + gaps[first] / divisor
                + "; columnDistance" + column + ", 1) = " + speeds[first] / divisor);
    }

    public static void main(String[] args) throws Exception {
        runAll(DescriptionTest.class, "walls", "pieces", "tree", "drawing", "rays");
    }
}
