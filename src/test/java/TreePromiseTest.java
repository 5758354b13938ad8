/** Promises 19 to 30: the nodes, pieces and leaves of the tree, and its builds. */
public final class TreePromiseTest extends Promises {
    private static void promise19() {
        fresh();
        is("19: none", x.nodeCount(), 0);
        threeWalls();
        is("19: the walls cut each other", x.nodeCount(), 4);
        x.addWall(60, 20, 55, 20, 0, 0);
        is("19: a wall on a line that has a node", x.nodeCount(), 4);
        x.addWall(10, 60, 20, 60, 0, 1);
        is("19: a movable wall at a leaf", x.nodeCount(), 5);
        fresh();
        x.addWall(10, 10, 20, 10, 0, 1);
        is("19: a movable wall alone", x.nodeCount(), 1);
        is("19: inserting is no build", x.buildCount(), 0);
    }

    private static void promise20() {
        fresh();
        is("20: none", x.nodeWall(0), -7);
        threeWalls();
        node(0, 0, 0, 1, 2);
        node(1, 1, 1, -8, -8);
        node(2, 1, 1, 3, -8);
        node(3, 2, 2, -8, -8);
        is("20: 4", x.nodeWall(4), -7);
        is("20: -1", x.nodeWall(-1), -7);
        is("20: lowest", x.nodeWall(LOW), -7);
        is("20: highest", x.nodeWall(HIGH), -7);
        // wall 0 cuts nothing and has wall 1 on one side; wall 1 cuts wall 0
        fresh();
        x.addWall(10, 10, 30, 10, 0, 0);
        x.addWall(20, 20, 20, 30, 0, 0);
        is("20: nothing is cut by wall 0", x.nodeWall(0), 0);
        x.turnWall(0);
        is("20: nor if it is turned", x.nodeWall(0), 0);
        x.setWeights(0, 1);
        is("20: the balance alone prefers to cut", x.nodeWall(0), 1);
        x.setWeights(1, 1);
        is("20: of several the lowest", x.nodeWall(0), 0);
        x.setWeights(2, 1);
        is("20: the cut costs more", x.nodeWall(0), 0);
        x.setWeights(0, 0);
        is("20: without weights the lowest", x.nodeWall(0), 0);
        fresh();
        x.addWall(20, 20, 20, 30, 0, 0);
        x.addWall(10, 10, 30, 10, 0, 0);
        is("20: the higher wall is cheaper", x.nodeWall(0), 1);
        fresh();
        x.addWall(8, 8, 16, 8, 0, 1);
        x.addWall(8, 4, 16, 4, 0, 0);
        x.addWall(8, 12, 16, 12, 0, 1);
        node(0, 1, 0, 1, -8);
        node(1, 0, 1, 2, -8);
        node(2, 2, 2, -8, -8);
    }

    private static void promise21() {
        fresh();
        is("21: side 2 comes first", x.nodeChild(0, 2), -2);
        is("21: side -1", x.nodeChild(0, -1), -2);
        is("21: no node", x.nodeChild(0, 0), -7);
        threeWalls();
        x.nodeChild(0, 2);
        is("21: a bad value is no build", x.buildCount(), 0);
        is("21: front of the root", x.nodeChild(0, 0), 1);
        is("21: a build", x.buildCount(), 1);
        is("21: back of the root", x.nodeChild(0, 1), 2);
        is("21: a node in front", x.nodeChild(2, 0), 3);
        is("21: a leaf behind", x.nodeChild(2, 1), -8);
        is("21: no node 4", x.nodeChild(4, 1), -7);
        is("21: no node -1", x.nodeChild(-1, 0), -7);
        is("21: no node highest", x.nodeChild(HIGH, 0), -7);
    }

    private static void promise22() {
        fresh();
        is("22: none", x.nodeDepth(0), -7);
        x.addWall(0, 0, 0, 9, 0, 0);
        x.nodeDepth(7);
        is("22: NO_SUCH_NODE needs the tree", x.buildCount(), 1);
        for (int i = 1; i < 12; i++) {
            x.addWall(i, 0, i, 9, 0, i > 5 ? 1 : 0);
        }
        // 0 to 5 are halved: 2 | 0 1 | 3 4 5, then the movable ones hang behind the last
        is("22: wall of the root", x.nodeWall(0), 2);
        is("22: root", x.nodeDepth(0), 0);
        int deepest = 0;
        for (int node = 0; node < 12; node++) {
            deepest = Math.max(deepest, x.nodeDepth(node));
        }
        is("22: the movable walls go down one by one", deepest, 8);
        is("22: 12", x.nodeDepth(12), -7);
        is("22: -1", x.nodeDepth(-1), -7);
    }

    private static void promise23() {
        fresh();
        is("23: none", x.pieceCount(), 0);
        threeWalls();
        is("23: one is cut", x.pieceCount(), 4);
        x.addWall(15, 0, 15, 63, 0, 1);
        is("23: a movable wall that is cut twice", x.pieceCount(), 7);
        x.moveWall(3, 40, 0);
        is("23: and once", x.pieceCount(), 6);
        x.removeWall(3);
        x.addWall(30, 20, 30, 40, 0, 1);
        is("23: a piece that ends on the line is not cut", x.pieceCount(), 5);
    }

    /** As many pieces as there can be: each wall crosses all others, which cuts one of the two. */
    private static void promise23Most() {
        fresh();
        x.setWeights(0, 9);
        for (int i = 0; i < 12; i++) {
            x.addWall(i, 0, 63 - 5 * i, 63 - i, i % 3, 0);
        }
        is("23: 12 walls and 66 points of two walls", x.pieceCount(), 78);
        is("23: the same without weights", x.piecesWith(0, 0), 78);
        is("23: the last", x.pieceWall(77) >= 0 ? 1 : 0, 1);
        is("23: no more", x.pieceWall(78), -6);
        due.isTrue("23: the last node", x.pieceNode(77) == x.nodeCount() - 1);
        double sum = 0;
        double walls = 0;
        for (int piece = 0; piece < 78; piece++) {
            sum += x.pieceLength(piece);
        }
        for (int i = 0; i < 12; i++) {
            walls += Math.sqrt((63 - 6 * i) * (63 - 6 * i) + (63 - i) * (63 - i));
        }
        due.isTrue("23: the pieces are the walls", sum - walls < 1e-9 && walls - sum < 1e-9);
    }

    /** A wall that ends on the line of another is on one side of it, whichever end it is. */
    private static void promise23Touching() {
        int[][] ends = {{30, 20, 30, 40}, {30, 40, 30, 20}, {30, 20, 30, 5}, {30, 5, 30, 20}};
        for (int movable = 0; movable < 2; movable++) {
            for (int i = 0; i < 4; i++) {
                fresh();
                x.addWall(10, 20, 50, 20, 0, 0);
                x.addWall(ends[i][0], ends[i][1], ends[i][2], ends[i][3], 0, movable);
                x.addWall(10, 50, 50, 50, 0, 1);
                x.addWall(10, 60, 50, 60, 0, 1);
                x.setWeights(9, 0);
                is("23: touching is not crossing", x.pieceCount() - (i < 2 ? 2 : 0), 4);
                node(0, 0, 0, 1, i < 2 ? -8 : 3);
                piece(0, 0, 0, 0, 1, 1, 1);
                is("23: in front or behind", x.pieceWall(i < 2 ? 1 : 3), 1);
            }
        }
        int[][] near = {{30, 11, 30, 5}, {30, 5, 30, 11}, {30, 15, 30, 9}, {30, 9, 30, 15}};
        int[] cuts = {1, 5, 5, 1};
        for (int i = 0; i < 4; i++) {
            fresh();
            x.addWall(10, 10, 11, 10, 0, 0);
            x.addWall(near[i][0], near[i][1], near[i][2], near[i][3], 0, 1);
            boolean startIsInFront = i % 2 == 0;
            piece(startIsInFront ? 1 : 2, 1, startIsInFront ? 1 : 2, 0, 1, cuts[i], 6);
            piece(startIsInFront ? 2 : 1, 1, startIsInFront ? 2 : 1, cuts[i], 6, 1, 1);
        }
    }

    private static void promise24() {
        fresh();
        is("24: none", x.pieceWall(0), -6);
        threeWalls();
        piece(0, 0, 0, 0, 1, 1, 1);
        piece(1, 1, 1, 3, 7, 1, 1);
        piece(2, 1, 2, 0, 1, 3, 7);
        piece(3, 2, 3, 0, 1, 1, 1);
        is("24: 4", x.pieceWall(4), -6);
        is("24: -1", x.pieceWall(-1), -6);
        is("24: lowest", x.pieceWall(LOW), -6);
        fresh();
        x.addWall(5, 20, 9, 20, 0, 1);
        x.addWall(10, 20, 50, 20, 0, 0);
        x.addWall(30, 5, 30, 40, 0, 1);
        x.addWall(63, 20, 60, 20, 0, 0);
        piece(0, 1, 0, 0, 1, 1, 1);
        piece(1, 3, 0, 0, 1, 1, 1);
        piece(2, 0, 0, 0, 1, 1, 1);
        piece(3, 2, 1, 3, 7, 1, 1);
        piece(4, 2, 2, 0, 1, 3, 7);
    }

    private static void promise25() {
        fresh();
        is("25: none", x.pieceNode(0), -6);
        threeWalls();
        x.addWall(60, 20, 55, 20, 0, 1);
        is("25: two at the root", x.pieceNode(0), 0);
        is("25: two at the root", x.pieceNode(1), 0);
        is("25: then node 1", x.pieceNode(2), 1);
        is("25: then node 2", x.pieceNode(3), 2);
        is("25: then node 3", x.pieceNode(4), 3);
        is("25: 5", x.pieceNode(5), -6);
        is("25: -1", x.pieceNode(-1), -6);
        is("25: highest", x.pieceNode(HIGH), -6);
    }

    private static void promise26() {
        fresh();
        is("26: 4 comes first", x.pieceBound(0, 4), -2);
        is("26: -1 comes first", x.pieceBound(0, -1), -2);
        is("26: none", x.pieceBound(0, 0), -6);
        x.addWall(0, 0, 60, 0, 0, 0);
        x.addWall(10, 50, 10, 10, 0, 1);
        x.addWall(7, 20, 37, 20, 0, 1);
        x.pieceBound(0, 4);
        is("26: a bad value is no build", x.buildCount(), 0);
        // wall 1 points down, so that its front is to the right: wall 2 is cut at 3 of 30
        piece(0, 0, 0, 0, 1, 1, 1);
        piece(1, 1, 1, 0, 1, 1, 1);
        piece(2, 2, 2, 1, 10, 1, 1);
        piece(3, 2, 3, 0, 1, 1, 10);
        is("26: no piece", x.pieceBound(4, 3), -6);
        is("26: no piece -1", x.pieceBound(-1, 0), -6);
        x.turnWall(2);
        piece(2, 2, 2, 0, 1, 9, 10);
        piece(3, 2, 3, 9, 10, 1, 1);
        x.turnWall(1);
        piece(2, 2, 2, 9, 10, 1, 1);
        piece(3, 2, 3, 0, 1, 9, 10);
    }

    /** A wall that two others cut: its middle piece has a cut at both ends. */
    private static void promise26Twice() {
        for (int turned = 0; turned < 2; turned++) {
            fresh();
            x.addWall(20, 0, 20, 9, 0, 0);
            x.addWall(33, 0, 33, 9, 0, 1);
            x.addWall(10, 30, 40, 30, 0, 1);
            if (turned == 0) {
                piece(1, 2, 1, 0, 1, 1, 3);
                piece(3, 2, 3, 1, 3, 23, 30);
                piece(4, 2, 4, 23, 30, 1, 1);
                x.turnWall(2);
            }
            piece(0, 0, 0, 0, 1, 1, 1);
            if (turned == 0) {
                piece(1, 2, 1, 2, 3, 1, 1);
                piece(2, 1, 2, 0, 1, 1, 1);
                piece(3, 2, 3, 7, 30, 2, 3);
                piece(4, 2, 4, 0, 1, 7, 30);
            }
        }
    }

    private static void promise27() {
        fresh();
        due.is("27: none", x.pieceLength(0), -6.0);
        x.addWall(0, 0, 3, 4, 0, 0);
        due.is("27: 3, 4, 5", x.pieceLength(0), 5.0);
        due.is("27: -1", x.pieceLength(-1), -6.0);
        due.is("27: 1", x.pieceLength(1), -6.0);
        is("27: a build", x.buildCount(), 1);
        x.moveWall(0, 0, 1);
        x.pieceLength(9);
        is("27: no such piece needs the tree", x.buildCount(), 2);
        fresh();
        x.addWall(0, 0, 63, 63, 0, 0);
        x.addWall(10, 13, 40, 30, 0, 1);
        // side values 189 and -630 of the second wall: it is cut at 3/13
        piece(1, 1, 1, 0, 1, 3, 13);
        piece(2, 1, 2, 3, 13, 1, 1);
        due.is("27: whole", x.pieceLength(0), Math.sqrt(7938.0));
        due.is("27: first part", x.pieceLength(1), (3.0 / 13.0 - 0.0) * Math.sqrt(1189.0));
        due.is("27: second part", x.pieceLength(2), (1.0 - 3.0 / 13.0) * Math.sqrt(1189.0));
    }

    /** The language has no square root of its own: each length that a wall can have. */
    private static void promise27Lengths() {
        for (int wide = 0; wide < 64; wide++) {
            for (int high = 0; high < 64; high++) {
                if (wide + high > 0) {
                    fresh();
                    x.addWall(0, 0, wide, high, 0, 0);
                    due.is("27: the length of " + wide + ", " + high, x.pieceLength(0),
                            Math.sqrt((double) (wide * wide + high * high)));
                }
            }
        }
    }

    private static void promise28() {
        fresh();
        is("28: the only leaf", x.locate(63, 63), 0);
        threeWalls();
        // leaves: left and right above wall 0; below it left above and below wall 2, then right
        is("28: left above", x.locate(20, 30), 0);
        is("28: right above", x.locate(40, 30), 1);
        is("28: on the line is in front", x.locate(20, 20), 0);
        is("28: left below, above wall 2", x.locate(20, 15), 2);
        is("28: left below wall 2", x.locate(29, 9), 3);
        is("28: on wall 1", x.locate(30, 10), 2);
        is("28: right below", x.locate(40, 10), 4);
        is("28: right below, above the line of wall 2", x.locate(40, 12), 4);
        fresh();
        x.addWall(10, 20, 50, 20, 0, 0);
        is("28: front", x.locate(0, 21), 0);
        is("28: back", x.locate(63, 19), 1);
        is("28: corner", x.locate(63, 63), 0);
        is("28: corner", x.locate(0, 0), 1);
        is("28: x 64", x.locate(64, 0), -2);
        is("28: x -1", x.locate(-1, 0), -2);
        is("28: y 64", x.locate(0, 64), -2);
        is("28: y -1", x.locate(0, -1), -2);
        x.turnWall(0);
        is("28: bad value", x.locate(LOW, HIGH), -2);
        is("28: a bad value is no build", x.buildCount(), 1);
        is("28: turned", x.locate(0, 0), 0);
        is("28: a build", x.buildCount(), 2);
        chain();
        for (int i = 0; i < 12; i++) {
            is("28: in a chain of twelve", x.locate(5 + i, 5), i);
        }
        is("28: behind all", x.locate(17, 5), 12);
    }

    private static void promise29() {
        fresh();
        due.is("29: none", x.meanLeafDepth(), 0.0);
        x.addWall(10, 20, 50, 20, 0, 0);
        due.is("29: two leaves", x.meanLeafDepth(), 1.0);
        x.addWall(10, 30, 50, 30, 0, 1);
        due.is("29: three leaves", x.meanLeafDepth(), 5.0 / 3.0);
        x.addWall(10, 40, 50, 40, 0, 1);
        due.is("29: four leaves", x.meanLeafDepth(), 9.0 / 4.0);
        is("29: a build", x.buildCount(), 1);
        chain();
        due.is("29: one leaf of each depth up to 11, two of depth 12", x.meanLeafDepth(), 90.0 / 13.0);
    }

    private static void promise30() {
        fresh();
        is("30: none", x.buildCount(), 0);
        x.addWall(10, 20, 50, 20, 0, 0);
        x.addWall(10, 30, 50, 30, 0, 0);
        is("30: not yet", x.buildCount(), 0);
        x.blocker(1, 1, 2, 2);
        x.columnWall(1, 1, 1, 1, 1);
        x.seenPoints(1, 1);
        x.nearestWall(1, 1);
        x.piecesWith(1, 1);
        x.bestWeights();
        x.leastPieces();
        x.bestRoot();
        x.walk(1, 1, 1, 1);
        is("30: these need no tree", x.buildCount(), 0);
        x.pieceCount();
        is("30: one for two walls", x.buildCount(), 1);
        x.nodeCount();
        is("30: nothing is different", x.buildCount(), 1);
        x.setKind(0, 2);
        x.nodeCount();
        is("30: a kind is no difference", x.buildCount(), 1);
        x.addWall(1, 1, 9, 9, 0, 1);
        x.moveWall(2, 1, 1);
        x.nodeCount();
        is("30: a movable wall is none", x.buildCount(), 1);
        x.turnWall(1);
        x.turnWall(1);
        x.nodeCount();
        is("30: turned twice is none", x.buildCount(), 1);
        x.turnWall(1);
        x.nodeCount();
        is("30: turned", x.buildCount(), 2);
        int[][] moves = {{1, 0}, {0, 1}, {-1, 0}, {0, -1}};
        for (int i = 0; i < 4; i++) {
            x.moveWall(0, moves[i][0], moves[i][1]);
            x.nodeCount();
            is("30: moved", x.buildCount(), 3 + i);
        }
        x.setWeights(5, 2);
        x.nodeCount();
        is("30: balance weight", x.buildCount(), 7);
        x.setWeights(4, 2);
        x.nodeCount();
        is("30: split weight", x.buildCount(), 8);
        x.undo();
        x.nodeCount();
        is("30: undone", x.buildCount(), 9);
        x.removeWall(0);
        x.nodeCount();
        is("30: removed", x.buildCount(), 10);
        x.addWall(10, 20, 50, 20, 0, 1);
        x.nodeCount();
        is("30: came back as a movable one", x.buildCount(), 10);
        x.removeWall(0);
        x.addWall(10, 20, 50, 20, 0, 0);
        x.nodeCount();
        is("30: came back", x.buildCount(), 11);
        text("s10,20,50,20;");
        x.load();
        x.nodeCount();
        is("30: loaded", x.buildCount(), 12);
        x.load();
        x.nodeCount();
        is("30: loaded again", x.buildCount(), 12);
        text("g10,20,50,20;sm1,1,2,2;");
        x.load();
        x.nodeCount();
        is("30: the same fixed walls", x.buildCount(), 12);
        text("sm1,1,2,2;g10,20,50,20;");
        x.load();
        x.nodeCount();
        is("30: another number", x.buildCount(), 13);
        text("");
        x.load();
        x.nodeCount();
        is("30: no walls", x.buildCount(), 14);
    }

    /** Each of the four coordinates of a fixed wall matters alone. */
    private static void promise30Coordinates() {
        int[][] walls = {{10, 20, 50, 20}, {11, 20, 50, 20}, {10, 21, 50, 20}, {10, 20, 51, 20},
            {10, 20, 50, 21}};
        for (int i = 1; i < 5; i++) {
            fresh();
            for (int[] w : new int[][] {walls[0], walls[i]}) {
                text("s" + w[0] + "," + w[1] + "," + w[2] + "," + w[3] + ";");
                x.load();
                x.nodeCount();
            }
            is("30: coordinate " + i, x.buildCount(), 2);
        }
    }

    /** Each method that needs the tree makes it, the others do not. */
    private static void promise30Methods() {
        for (int method = 0; method < 13; method++) {
            fresh();
            x.addWall(10, 20, 50, 20, 0, 0);
            needTree(method);
            is("30: method " + method + " needs the tree", x.buildCount(), 1);
            x.setWeights(1, 1);
            refused(method);
            is("30: method " + method + " with a bad value does not", x.buildCount(), 1);
        }
    }

    private static void needTree(int method) {
        switch (method) {
            case 0: x.nodeCount(); break;
            case 1: x.nodeWall(-1); break;
            case 2: x.nodeChild(-1, 0); break;
            case 3: x.nodeDepth(-1); break;
            case 4: x.pieceCount(); break;
            case 5: x.pieceWall(-1); break;
            case 6: x.pieceNode(-1); break;
            case 7: x.pieceBound(-1, 0); break;
            case 8: x.meanLeafDepth(); break;
            case 9: x.drawCount(0, 0); break;
            case 10: x.drawPiece(0, 0, 99); break;
            case 11: x.paintCount(0, 0, 1, 0); break;
            default: x.paintedPiece(0, 0, 1, 0, 0); break;
        }
    }

    private static void refused(int method) {
        switch (method) {
            case 2: is("side", x.nodeChild(0, 2), -2); break;
            case 7: is("which", x.pieceBound(0, 4), -2); break;
            case 9: is("point", x.drawCount(0, 64), -2); break;
            case 10: is("index", x.drawPiece(0, 0, -1), -2); break;
            case 11: is("direction", x.paintCount(0, 0, 0, 0), -2); break;
            case 12: is("column", x.paintedPiece(0, 0, 1, 0, 32), -2); break;
            default: break;
        }
    }

    public static void main(String[] args) {
        promise19();
        promise20();
        promise21();
        promise22();
        promise23();
        promise23Most();
        promise23Touching();
        promise24();
        promise25();
        promise26();
        promise26Twice();
        promise27();
        promise27Lengths();
        promise28();
        promise29();
        promise30();
        promise30Coordinates();
        promise30Methods();
        due.close("TreePromiseTest");
    }
}
