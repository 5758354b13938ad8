/** The boundary cases of promises 19 to 30: the nodes, pieces and leaves, and the builds. */
public final class TreeEdgesTest extends Edges {
    /** Wall 0 is the root; wall 1 crosses its line at 3/7; wall 2 is behind wall 0. */
    private static final String THREE = "addWall(10, 20, 50, 20, 0, 0) = 0;"
            + "addWall(30, 5, 30, 40, 0, 0) = 1; addWall(10, 10, 20, 10, 0, 0) = 2; nodeCount() = 4";

    /** Side values for this wall tell how far a point is above 10. */
    private static final String SHORT = "setWeights(0, 0); addWall(10, 10, 11, 10, 0, 0) = 0;";

    /** The line of wall 0 cuts wall 1, but not the other way round. */
    private static final String CUTTER =
            "addWall(20, 20, 20, 30, 0, 0) = 0; addWall(10, 10, 30, 10, 0, 0) = 1;";
    private static final String CUT =
            "addWall(10, 10, 30, 10, 0, 0) = 0; addWall(20, 20, 20, 30, 0, 0) = 1;";

    /** A wall, and calls that need the tree. */
    private static final String[] NEED_THE_TREE = {"nodeCount() = 1", "nodeWall(0) = 0",
        "nodeWall(9) = -7", "nodeWall(-1) = -7", "nodeChild(0, 0) = -8", "nodeChild(9, 0) = -7",
        "nodeDepth(0) = 0", "nodeDepth(9) = -7", "pieceCount() = 1", "pieceWall(0) = 0",
        "nodeChild(-1, 1) = -7", "nodeDepth(-1) = -7", "nodeDepth(HIGH) = -7",
        "pieceWall(9) = -6", "pieceWall(-1) = -6", "pieceNode(0) = 0", "pieceNode(9) = -6",
        "pieceNode(-1) = -6", "pieceBound(0, 3) = 1", "pieceBound(-1, 0) = -6",
        "pieceLength(-1) = -6.0", "pieceLength(LOW) = -6.0", "nodeWall(HIGH) = -7",
        "pieceBound(9, 3) = -6", "pieceLength(0) = 40.0", "pieceLength(9) = -6.0",
        "locate(1, 1) = 1", "meanLeafDepth() = 1.0", "drawCount(1, 1) = 1", "drawCount(1, 20) = 0",
        "drawPiece(1, 1, 0) = 0", "drawPiece(1, 1, 1) = -8", "paintCount(1, 1, 1, 0) = 10",
        "paintCount(1, 1, -1, 0) = 0", "paintedPiece(1, 1, 1, 1, 16) = 0",
        "paintedPiece(1, 1, 1, 1, 31) = -8"};

    private static final String[] BAD_VALUES = {"nodeChild(0, 2)", "nodeChild(0, -1)",
        "nodeChild(9, 2)", "pieceBound(0, 4)", "pieceBound(0, -1)", "pieceBound(9, 4)",
        "locate(64, 1)", "locate(1, -1)", "drawCount(64, 1)", "drawCount(1, -1)",
        "drawPiece(64, 1, 0)", "drawPiece(1, 64, 0)", "drawPiece(1, 1, -1)", "paintCount(64, 1, 1, 1)",
        "paintCount(1, -1, 1, 1)", "paintCount(1, 1, 0, 0)", "paintCount(1, 1, 9, 0)",
        "paintCount(1, 1, 0, -9)", "paintedPiece(64, 1, 1, 1, 0)", "paintedPiece(1, -1, 1, 1, 0)",
        "paintedPiece(1, 1, 0, 0, 0)", "paintedPiece(1, 1, 9, 0, 0)", "paintedPiece(1, 1, 0, -9, 0)",
        "paintedPiece(1, 1, 1, 1, 32)", "paintedPiece(1, 1, 1, 1, -1)"};

    private static final String[] NEED_NO_TREE = {"wallCount()", "coordinate(0, 0)", "kind(0)",
        "weights()", "appendText(65)", "clearText()", "faultPlace()", "faultKind()", "faultItem()",
        "buildCount()", "blocker(1, 1, 30, 60)", "columnWall(1, 1, 1, 1, 9)",
        "columnDistance(1, 1, 1, 1, 9, 0)", "paneCount(1, 1, 1, 1, 9)",
        "seenColumns(1, 1, 1, 1, 0)", "seenPoints(1, 1)", "lookout(0)", "walk(1, 1, 1, 1)",
        "wander(1, 1, 1, 9)", "nearestWall(1, 1)", "clearance(1, 1, 0)", "piecesWith(9, 9)",
        "bestWeights()", "leastPieces()", "bestRoot()", "turnWall(0)", "setKind(0, 1)",
        "moveWall(0, 1, 1)", "setWeights(9, 9)", "undo()", "addWall(1, 2, 3, 4, 0, 0)",
        "removeWall(0)", "load()"};

    private static String pieceIs(int piece, int wall, int node, int a, int b, int c, int d) {
        return "pieceWall(" + piece + ") = " + wall + "; pieceNode(" + piece + ") = " + node
                + "; pieceBound(" + piece + ", 0) = " + a + "; pieceBound(" + piece + ", 1) = " + b
                + "; pieceBound(" + piece + ", 2) = " + c + "; pieceBound(" + piece + ", 3) = " + d;
    }

    private static String nodeIs(int node, int wall, int depth, int front, int back) {
        return "nodeWall(" + node + ") = " + wall + "; nodeDepth(" + node + ") = " + depth
                + "; nodeChild(" + node + ", 0) = " + front + "; nodeChild(" + node + ", 1) = " + back;
    }

    /** Twelve walls, each of which crosses all others; the last ones are movable. */
    private static String mostPieces(int fixed) {
        StringBuilder calls = new StringBuilder("setWeights(0, 0);");
        for (int i = 0; i < 12; i++) {
            calls.append("addWall(" + i + ", 0, " + (63 - 5 * i) + ", " + (63 - i) + ", 0, "
                    + (i < fixed ? 0 : 1) + ");");
        }
        return calls.toString();
    }

    // ---- 19: nodeCount

    static void promise19_withoutWallsThereIsNone() {
        holds("nodeCount() = 0", walls(1, 0), "nodeCount() = 1; removeWall(0) = 0; nodeCount() = 0");
    }

    static void promise19_aLeafWithAMovableWallIsANode() {
        holds("addWall(1, 2, 3, 4, 0, 1); nodeCount() = 1", nodeIs(0, 0, 0, -8, -8));
        holds(walls(12, 1), "nodeCount() = 12");
    }

    static void promise19_piecesOnOneLineHaveOneNode() {
        for (int movable = 0; movable < 2; movable++) {
            String first = "addWall(10, 10, 20, 10, 0, 0);";
            holds(first, "addWall(30, 10, 40, 10, 0, " + movable + "); nodeCount() = 1");
            holds(first, "addWall(15, 10, 5, 10, 0, " + movable + "); nodeCount() = 1");
            holds(first, "addWall(30, 10, 40, 11, 0, " + movable + "); nodeCount() = 2");
            holds(first, "addWall(30, 9, 40, 10, 0, " + movable + "); nodeCount() = 2");
        }
    }

    static void promise19_bothPartsOfACutPieceCanHaveNodes() {
        holds(SHORT, "addWall(30, 9, 30, 11, 0, 0); nodeCount() = 3; pieceCount() = 3");
        holds(SHORT, "addWall(30, 9, 30, 11, 0, 1); nodeCount() = 3; pieceCount() = 3");
    }

    // ---- 20: nodeWall

    static void promise20_nodesAreNumberedFrom0() {
        refuses("nodeCount() = 0", "nodeWall(%)", 0, -1, -7);
        refuses(walls(1, 0) + "nodeCount() = 1", "nodeWall(%)", 0, 0, -7);
        refuses(THREE, "nodeWall(%)", 0, 3, -7);
        refuses(walls(12, 1) + "nodeCount() = 12", "nodeWall(%)", 0, 11, -7);
        holds(THREE, "nodeWall(0) = 0; nodeWall(3) = 2");
        holds(walls(12, 1), "nodeWall(0) = 0; nodeWall(11) = 11");
    }

    static void promise20_ofSeveralWithTheLeastPriceItIsTheLowest() {
        holds(walls(2, 0), "nodeWall(0) = 0");
        holds(walls(4, 0), "nodeWall(0) = 1");
        holds("addWall(9, 0, 9, 9, 0, 0); addWall(8, 0, 8, 9, 0, 0); addWall(7, 0, 7, 9, 0, 0)",
                "addWall(6, 0, 6, 9, 0, 0); nodeWall(0) = 1");
        holds("setWeights(0, 0)", walls(12, 0), "nodeWall(0) = 0; nodeWall(1) = 1");
        holds("setWeights(9, 0)", walls(12, 0), "nodeWall(0) = 0; nodeWall(11) = 11");
    }

    static void promise20_theBalanceIsTheAbsoluteDifference() {
        holds(walls(3, 0), nodeIs(0, 1, 0, 1, 2), "nodeWall(1) = 0; nodeWall(2) = 2");
        holds("addWall(9, 0, 9, 9, 0, 0); addWall(8, 0, 8, 9, 0, 0); addWall(7, 0, 7, 9, 0, 0)",
                nodeIs(0, 1, 0, 1, 2), "nodeWall(1) = 2; nodeWall(2) = 0");
        holds(walls(5, 0), "nodeWall(0) = 2; turnWall(2); nodeWall(0) = 2");
        holds(walls(5, 0), each("turnWall(%)", 0, 4), "nodeWall(0) = 2; nodeWall(1) = 3");
    }

    /** Its price is the split weight if it cuts, and the balance weight of the other if it does not. */
    static void promise20_theLeastPriceIsChosen() {
        int[][] weights = {{0, 9}, {1, 2}, {4, 5}, {8, 9}, {0, 1}};
        for (int[] w : weights) {
            holds("setWeights(" + w[0] + ", " + w[1] + ")", CUTTER, "nodeWall(0) = 0; pieceCount() = 3");
            holds("setWeights(" + w[0] + ", " + w[1] + ")", CUT, "nodeWall(0) = 1; pieceCount() = 3");
            holds("setWeights(" + w[1] + ", " + w[0] + ")", CUTTER, "nodeWall(0) = 1; pieceCount() = 2");
            holds("setWeights(" + w[1] + ", " + w[0] + ")", CUT, "nodeWall(0) = 0; pieceCount() = 2");
        }
        for (int both = 0; both <= 9; both++) {
            holds("setWeights(" + both + ", " + both + ")", CUTTER, "nodeWall(0) = 0");
            holds("setWeights(" + both + ", " + both + ")", CUT, "nodeWall(0) = 0");
        }
    }

    static void promise20_eachCutCounts() {
        String walls = "addWall(30, 40, 30, 50, 0, 0); addWall(10, 10, 50, 10, 0, 0);"
                + "addWall(10, 20, 50, 20, 0, 0); addWall(10, 30, 50, 30, 0, 0);";
        holds(walls, "setWeights(3, 9); nodeWall(0) = 0; setWeights(4, 9); nodeWall(0) = 2");
        holds(walls, "setWeights(2, 6); nodeWall(0) = 0; setWeights(2, 5); nodeWall(0) = 2");
        holds(walls, "setWeights(1, 3); nodeWall(0) = 0; setWeights(1, 2); nodeWall(0) = 2");
    }

    /** If whole walls were counted for the price, there would be 6 pieces. */
    static void promise20_onlyThePiecesOfTheListCountForThePrice() {
        holds("addWall(50, 40, 30, 30, 0, 0); addWall(40, 20, 10, 0, 0, 0)",
                "addWall(50, 60, 40, 30, 0, 0); addWall(50, 40, 60, 0, 0, 0); pieceCount() = 5");
        holds("addWall(20, 60, 30, 20, 0, 0); addWall(10, 10, 30, 40, 0, 0)",
                "addWall(60, 40, 40, 40, 0, 0); addWall(40, 30, 10, 0, 0, 0); pieceCount() = 5");
    }

    static void promise20_movableWallsDoNotCountForThePrice() {
        holds(walls(2, 0), "addWall(2, 0, 2, 9, 0, 1); addWall(3, 0, 3, 9, 0, 1); nodeWall(0) = 0");
        holds("addWall(0, 0, 0, 9, 0, 1)", "addWall(1, 0, 1, 9, 0, 0)", nodeIs(0, 1, 0, 1, -8),
                nodeIs(1, 0, 1, -8, -8));
    }

    // ---- 21: nodeChild

    static void promise21_sideIs0Or1() {
        refuses(THREE, "nodeChild(0, %)", 0, 1, -2);
        refuses(THREE + "; turnWall(0)", "nodeChild(0, %)", 0, 1, -2);
        holds(THREE, "nodeChild(0, 0) = 1; nodeChild(0, 1) = 2");
    }

    static void promise21_nodesAreNumberedFrom0() {
        refuses("nodeCount() = 0", "nodeChild(%, 0)", 0, -1, -7);
        refuses("nodeCount() = 0", "nodeChild(%, 1)", 0, -1, -7);
        refuses(THREE, "nodeChild(%, 0)", 0, 3, -7);
        refuses(THREE, "nodeChild(%, 1)", 0, 3, -7);
        holds(THREE, "nodeChild(3, 0) = -8; nodeChild(3, 1) = -8");
    }

    static void promise21_badValueIsReportedBeforeNoSuchNode() {
        changesNothing(THREE, "nodeChild(4, 2) = -2");
        changesNothing(THREE, "nodeChild(-1, -1) = -2");
        changesNothing("", "nodeChild(0, HIGH) = -2");
    }

    static void promise21_aLeafIsNone() {
        holds(walls(1, 0), "nodeChild(0, 0) = -8; nodeChild(0, 1) = -8");
        holds(THREE, "nodeChild(2, 0) = 3; nodeChild(2, 1) = -8; nodeChild(1, 0) = -8");
    }

    static void promise21_theFrontSubtreeIsNumberedFirst() {
        holds(walls(3, 0), "nodeChild(0, 0) = 1; nodeChild(0, 1) = 2");
        holds(walls(7, 0), "nodeChild(0, 0) = 1; nodeChild(0, 1) = 4; nodeChild(4, 1) = 6");
    }

    // ---- 22: nodeDepth

    static void promise22_nodesAreNumberedFrom0() {
        refuses("nodeCount() = 0", "nodeDepth(%)", 0, -1, -7);
        refuses(THREE, "nodeDepth(%)", 0, 3, -7);
        refuses(walls(12, 1) + "nodeCount() = 12", "nodeDepth(%)", 0, 11, -7);
        holds(THREE, "nodeDepth(0) = 0; nodeDepth(1) = 1; nodeDepth(2) = 1; nodeDepth(3) = 2");
    }

    static void promise22_isFrom0To11() {
        holds(walls(1, 0), "nodeDepth(0) = 0");
        holds(walls(12, 1), each("nodeDepth(%) = %", 0, 11));
        holds("setWeights(0, 0)", walls(12, 0), each("nodeDepth(%) = %", 0, 11));
    }

    // ---- 23: pieceCount

    static void promise23_withoutWallsThereIsNone() {
        holds("pieceCount() = 0", walls(1, 1), "pieceCount() = 1; removeWall(0); pieceCount() = 0");
    }

    /** The ends of wall 1 have side values of -1, 0 and 1. */
    static void promise23_onlyAPieceWithEndsOnBothSidesIsCut() {
        for (int movable = 0; movable < 2; movable++) {
            for (int from = -1; from <= 1; from++) {
                for (int to = -1; to <= 1; to++) {
                    String walls = SHORT + "addWall(30, " + (10 + from) + ", 40, " + (10 + to)
                            + ", 0, " + movable + ") = 1;";
                    if (from == 0 && to == 0) {
                        holds(walls, "pieceCount() = 2; nodeCount() = 1", pieceIs(1, 1, 0, 0, 1, 1, 1));
                    } else if (from * to < 0) {
                        holds(walls, "pieceCount() = 3", nodeIs(0, 0, 0, 1, 2),
                                pieceIs(from > 0 ? 1 : 2, 1, from > 0 ? 1 : 2, 0, 1, 1, 2),
                                pieceIs(from > 0 ? 2 : 1, 1, from > 0 ? 2 : 1, 1, 2, 1, 1));
                    } else {
                        boolean front = from + to > 0;
                        holds(walls, "pieceCount() = 2", nodeIs(0, 0, 0, front ? 1 : -8,
                                front ? -8 : 1), pieceIs(1, 1, 1, 0, 1, 1, 1));
                    }
                }
            }
        }
    }

    /** The line of wall 1 goes through the point where wall 0 cuts wall 2. */
    static void promise23_aPieceThatEndsOnALineWhereItWasCutIsNotCut() {
        for (int movable = 0; movable < 2; movable++) {
            String walls = "setWeights(0, 0); addWall(0, 20, 10, 20, 0, 0);"
                    + "addWall(30, 50, 30, 60, 0, 0); addWall(20, 0, 40, 40, 0, " + movable + ");";
            holds(walls, "pieceCount() = 4", nodeIs(0, 0, 0, 1, 3), nodeIs(1, 1, 1, -8, 2),
                    pieceIs(2, 2, 2, 1, 2, 1, 1), pieceIs(3, 2, 3, 0, 1, 1, 2));
            holds(walls, "moveWall(1, 1, 0); pieceCount() = 5");
            holds(walls, "moveWall(1, -1, 0); pieceCount() = 4");
            holds(walls, "turnWall(2); pieceCount() = 4", pieceIs(2, 2, 2, 0, 1, 1, 2));
        }
    }

    static void promise23_onlyThePieceIsComparedAndNotItsWall() {
        holds("setWeights(0, 0); addWall(0, 20, 10, 20, 0, 0); addWall(25, 50, 25, 60, 0, 0)",
                "addWall(20, 0, 40, 40, 0, 0); pieceCount() = 4; moveWall(1, 6, 0); pieceCount() = 5");
    }

    static void promise23_isAtMost78() {
        for (int fixed = 0; fixed <= 12; fixed++) {
            holds(mostPieces(fixed), "pieceCount() = 78; pieceWall(77) = 11; pieceWall(78) = -6",
                    "pieceNode(78) = -6; pieceBound(78, 0) = -6; pieceLength(78) = -6.0",
                    "drawCount(0, 63) = 78; drawPiece(0, 63, 78) = -8; piecesWith(0, 0) = "
                    + fixed * (fixed + 1) / 2);
        }
    }

    // ---- 24 to 27: pieces

    static void promise24_piecesAreNumberedFrom0() {
        refuses("nodeCount() = 0", "pieceWall(%)", 0, -1, -6);
        refuses(THREE, "pieceWall(%)", 0, 3, -6);
        holds(THREE, "pieceWall(0) = 0; pieceWall(1) = 1; pieceWall(2) = 1; pieceWall(3) = 2");
        refuses(walls(12, 1) + "nodeCount() = 12", "pieceWall(%)", 0, 11, -6);
        holds(walls(12, 1), each("pieceWall(%) = %", 0, 11));
    }

    static void promise24_theListOfANodeKeepsTheOrder() {
        holds("addWall(1, 10, 2, 10, 0, 1); addWall(8, 10, 7, 10, 0, 0)",
                "addWall(5, 10, 6, 10, 0, 1); addWall(3, 10, 4, 10, 0, 0); nodeCount() = 1",
                "pieceWall(0) = 1; pieceWall(1) = 3; pieceWall(2) = 0; pieceWall(3) = 2");
    }

    static void promise25_piecesAreNumberedFrom0() {
        refuses("nodeCount() = 0", "pieceNode(%)", 0, -1, -6);
        refuses(THREE, "pieceNode(%)", 0, 3, -6);
        holds(THREE, each("pieceNode(%) = %", 0, 3));
    }

    static void promise25_onANodeThereAreSeveralPieces() {
        holds(THREE, "addWall(60, 20, 55, 20, 0, 1)", pieceIs(0, 0, 0, 0, 1, 1, 1),
                pieceIs(1, 3, 0, 0, 1, 1, 1), "pieceNode(2) = 1; pieceNode(4) = 3; pieceNode(5) = -6");
    }

    static void promise26_whichIsFrom0To3() {
        refuses(THREE, "pieceBound(0, %)", 0, 3, -2);
        refuses(THREE + "; turnWall(0)", "pieceBound(0, %)", 0, 3, -2);
        holds(THREE, pieceIs(2, 1, 2, 0, 1, 3, 7), pieceIs(1, 1, 1, 3, 7, 1, 1));
    }

    static void promise26_piecesAreNumberedFrom0() {
        for (int which = 0; which < 4; which++) {
            refuses("nodeCount() = 0", "pieceBound(%, " + which + ")", 0, -1, -6);
            refuses(THREE, "pieceBound(%, " + which + ")", 0, 3, -6);
        }
    }

    static void promise26_badValueIsReportedBeforeNoSuchPiece() {
        changesNothing(THREE, "pieceBound(4, 4) = -2");
        changesNothing(THREE, "pieceBound(-1, -1) = -2");
        changesNothing("", "pieceBound(0, LOW) = -2");
    }

    static void promise26_aWholePieceIsFrom0To1() {
        holds("addWall(0, 0, 63, 62, 0, 0)", pieceIs(0, 0, 0, 0, 1, 1, 1));
        holds("addWall(63, 62, 0, 0, 0, 1)", pieceIs(0, 0, 0, 0, 1, 1, 1));
    }

    static void promise26_fractionsAreInLowestTermsWithAPositiveDenominator() {
        String half = "addWall(30, 0, 30, 20, 0, 1)";
        holds(SHORT, half, pieceIs(1, 1, 1, 1, 2, 1, 1), pieceIs(2, 1, 2, 0, 1, 1, 2));
        holds(SHORT, half, "turnWall(0)", pieceIs(1, 1, 1, 0, 1, 1, 2), pieceIs(2, 1, 2, 1, 2, 1, 1));
        holds(SHORT, half, "turnWall(1)", pieceIs(1, 1, 1, 0, 1, 1, 2), pieceIs(2, 1, 2, 1, 2, 1, 1));
        String third = "addWall(30, 5, 30, 20, 0, 0)";
        holds(SHORT, third, pieceIs(1, 1, 1, 1, 3, 1, 1), pieceIs(2, 1, 2, 0, 1, 1, 3));
        holds(SHORT, third, "turnWall(1)", pieceIs(1, 1, 1, 0, 1, 2, 3), pieceIs(2, 1, 2, 2, 3, 1, 1));
    }

    static void promise26_theSmallestAndTheGreatestCut() {
        holds(SHORT, "addWall(30, 9, 30, 63, 0, 0)", pieceIs(1, 1, 1, 1, 54, 1, 1),
                pieceIs(2, 1, 2, 0, 1, 1, 54));
        holds(SHORT, "addWall(30, 63, 30, 9, 0, 0)", pieceIs(1, 1, 1, 0, 1, 53, 54),
                pieceIs(2, 1, 2, 53, 54, 1, 1));
        holds("addWall(0, 63, 63, 1, 0, 0); addWall(0, 0, 62, 63, 0, 1)",
                pieceIs(1, 1, 1, 3969, 7813, 1, 1), pieceIs(2, 1, 2, 0, 1, 3969, 7813));
    }

    static void promise26_aPieceCanBeCutAtBothEnds() {
        holds("addWall(20, 0, 20, 9, 0, 0); addWall(33, 0, 33, 9, 0, 1); addWall(10, 30, 40, 30, 0, 1)",
                "pieceCount() = 5", pieceIs(3, 2, 3, 1, 3, 23, 30), pieceIs(4, 2, 4, 23, 30, 1, 1));
    }

    static void promise27_piecesAreNumberedFrom0() {
        for (String piece : new String[] {"-1", "4", "LOW", "HIGH"}) {
            changesNothing(THREE, "pieceLength(" + piece + ") = -6.0");
        }
        holds("pieceLength(0) = -6.0; pieceLength(-1) = -6.0");
        holds(THREE, "pieceLength(0) = 40.0; pieceLength(3) = 10.0");
    }

    static void promise27_theShortestAndTheLongest() {
        holds("addWall(5, 5, 5, 6, 0, 0); pieceLength(0) = 1.0");
        holds("addWall(5, 5, 4, 6, 0, 0); pieceLength(0) = " + Math.sqrt(2.0));
        holds("addWall(0, 63, 63, 0, 0, 0); pieceLength(0) = " + Math.sqrt(7938.0));
        holds("addWall(63, 0, 0, 0, 0, 0); pieceLength(0) = 63.0");
    }

    static void promise27_isComputedWithDoublesAsTold() {
        for (int top = 9; top > 0; top--) {
            String wall = "addWall(30, " + (10 - top) + ", 33, 63, 0, 1);";
            double cut = (double) top / (53 + top);
            double length = Math.sqrt(9 + (53 + top) * (53 + top));
            holds(SHORT, wall, "pieceLength(1) = " + (1.0 - cut) * length,
                    "pieceLength(2) = " + (cut - 0.0) * length);
        }
    }

    // ---- 28: locate

    static void promise28_pointsAreFrom0To63() {
        refusesBadPoints("locate(X, Y)");
        takesCorners("", "locate(X, Y)", 0);
        String diagonal = "addWall(0, 63, 63, 0, 0, 0);";
        holds(diagonal, "locate(0, 0) = 1; locate(63, 63) = 0; locate(0, 63) = 0; locate(63, 0) = 0");
    }

    static void promise28_onTheLineIsInFront() {
        holds(SHORT, "locate(40, 11) = 0; locate(40, 10) = 0; locate(40, 9) = 1");
        holds(SHORT, "turnWall(0); locate(40, 11) = 1; locate(40, 10) = 0; locate(40, 9) = 0");
        holds("addWall(0, 0, 63, 62, 0, 0); locate(1, 1) = 0; locate(0, 0) = 0; locate(62, 61) = 1",
                "locate(63, 62) = 0");
    }

    static void promise28_withoutNodesThereIsOneLeaf() {
        holds("locate(0, 0) = 0; locate(63, 63) = 0; locate(31, 7) = 0");
    }

    static void promise28_leavesAreNumberedFromTheFront() {
        holds(THREE, "locate(20, 30) = 0; locate(40, 30) = 1; locate(20, 15) = 2; locate(20, 9) = 3",
                "locate(40, 9) = 4");
        holds(walls(12, 1), each("locate(%, 5) = %", 0, 11), "locate(12, 5) = 12; locate(63, 0) = 12");
        holds("setWeights(0, 0)", walls(12, 0), each("turnWall(%)", 0, 11), "locate(0, 0) = 11",
                "locate(11, 5) = 0; locate(10, 5) = 1; locate(63, 9) = 0");
    }

    // ---- 29: meanLeafDepth

    static void promise29_withoutNodesItIs0() {
        holds("meanLeafDepth() = 0.0", walls(1, 0), "meanLeafDepth() = 1.0; removeWall(0)",
                "meanLeafDepth() = 0.0");
    }

    static void promise29_isComputedWithDoubles() {
        holds(walls(2, 0), "meanLeafDepth() = " + 5.0 / 3.0);
        holds(walls(3, 0), "meanLeafDepth() = 2.0");
        holds(walls(12, 1), "meanLeafDepth() = " + 90.0 / 13.0);
        holds("setWeights(0, 0)", walls(12, 0), "meanLeafDepth() = " + 90.0 / 13.0);
    }

    // ---- 30: buildCount

    static void promise30_atTheBeginningThereAreNoWallsAndTheWeights5And1() {
        holds("nodeCount() = 0; buildCount() = 0; setWeights(5, 1); nodeCount(); buildCount() = 0");
        holds("setWeights(5, 2); nodeCount() = 0; buildCount() = 1; undo(); nodeCount()",
                "buildCount() = 2");
        holds("setWeights(4, 1); nodeCount() = 0; buildCount() = 1");
        holds("addWall(1, 2, 3, 4, 0, 1); nodeCount() = 1; buildCount() = 0");
        holds("addWall(1, 2, 3, 4, 0, 0); removeWall(0); nodeCount() = 0; buildCount() = 0");
        holds("load() = 0; nodeCount() = 0; buildCount() = 0");
    }

    static void promise30_aMethodThatNeedsTheTreeMakesIt() {
        for (String call : NEED_THE_TREE) {
            holds("addWall(10, 20, 50, 20, 0, 0); buildCount() = 0", call, "buildCount() = 1", call,
                    "buildCount() = 1; setWeights(9, 9); buildCount() = 1", call, "buildCount() = 2");
        }
    }

    static void promise30_aBadValueIsNoBuild() {
        for (String call : BAD_VALUES) {
            holds("addWall(10, 20, 50, 20, 0, 0)", call + " = -2", "buildCount() = 0; nodeCount() = 1",
                    "buildCount() = 1");
            holds("addWall(10, 20, 50, 20, 0, 0); nodeCount() = 1; setWeights(1, 1)", call + " = -2",
                    "buildCount() = 1; nodeCount() = 1; buildCount() = 2");
        }
    }

    static void promise30_otherMethodsMakeNoTree() {
        for (String call : NEED_NO_TREE) {
            holds("addWall(10, 20, 50, 20, 0, 0)", call, "buildCount() = 0");
            holds("addWall(10, 20, 50, 20, 0, 0); nodeCount() = 1; setWeights(1, 1)", call,
                    "buildCount() = 1");
        }
    }

    private static void buildsAfter(String first, String second, int builds) {
        holds(text(first) + "load(); nodeCount(); clearText()", text(second) + "load(); nodeCount()",
                "buildCount() = " + builds);
    }

    static void promise30_eachCoordinateOfAFixedWallIsCompared() {
        buildsAfter("s5,6,7,8;", "s5,6,7,8;", 1);
        buildsAfter("s5,6,7,8;", "s4,6,7,8;", 2);
        buildsAfter("s5,6,7,8;", "s5,5,7,8;", 2);
        buildsAfter("s5,6,7,8;", "s5,6,6,8;", 2);
        buildsAfter("s5,6,7,8;", "s5,6,7,7;", 2);
        buildsAfter("s5,6,7,8;", "s7,8,5,6;", 2);
        String eleven = "s0,1,2,3;".repeat(11);
        buildsAfter(eleven + "s5,6,7,8;", eleven + "s5,6,7,9;", 2);
        buildsAfter("s5,6,7,8;" + eleven, "s4,6,7,8;" + eleven, 2);
    }

    static void promise30_theNumbersOfFixedWallsAreCompared() {
        buildsAfter("s5,6,7,8;", "sm1,1,2,2;s5,6,7,8;", 2);
        buildsAfter("s5,6,7,8;", "s5,6,7,8;s5,6,7,8;", 2);
        buildsAfter("s5,6,7,8;s5,6,7,8;", "s5,6,7,8;", 2);
        buildsAfter("s5,6,7,8;s1,1,2,2;", "s1,1,2,2;s5,6,7,8;", 2);
        buildsAfter("s5,6,7,8;", "sm5,6,7,8;", 2);
        buildsAfter("sm5,6,7,8;", "s5,6,7,8;", 1);
        buildsAfter("s5,6,7,8;", "", 2);
        buildsAfter("", "", 0);
        holds(walls(12, 0), "nodeCount(); removeWall(11); nodeCount(); buildCount() = 2",
                "removeWall(0); nodeCount(); buildCount() = 3");
    }

    static void promise30_kindsAndMovableWallsAreNotCompared() {
        buildsAfter("s5,6,7,8;", "g5,6,7,8;", 1);
        buildsAfter("s5,6,7,8;", "o5,6,7,8;sm1,1,2,2;", 1);
        buildsAfter("s5,6,7,8;sm1,1,2,2;", "s5,6,7,8;sm1,1,2,3;", 1);
        buildsAfter("s5,6,7,8;sm1,1,2,2;", "s5,6,7,8;", 1);
        holds("addWall(5, 6, 7, 8, 0, 1); addWall(1, 1, 2, 2, 0, 0); nodeCount(); moveWall(0, 1, 1)",
                "nodeCount(); turnWall(0); nodeCount(); setKind(0, 2); nodeCount(); removeWall(0)",
                "nodeCount(); addWall(5, 6, 7, 8, 0, 1); nodeCount(); buildCount() = 1");
    }

    static void promise30_bothWeightsAreCompared() {
        holds(walls(1, 0), "nodeCount(); setWeights(5, 2); nodeCount(); buildCount() = 2",
                "setWeights(4, 2); nodeCount(); buildCount() = 3; setWeights(2, 4); nodeCount()",
                "buildCount() = 4; setWeights(2, 4); nodeCount(); buildCount() = 4");
    }

    static void promise30_onlyTheLatestBuildIsComparedWith() {
        holds(walls(1, 0), "nodeCount(); turnWall(0); turnWall(0); nodeCount(); buildCount() = 1",
                "turnWall(0); nodeCount(); turnWall(0); nodeCount(); buildCount() = 3");
        holds(walls(1, 0), "nodeCount(); setWeights(1, 1); setWeights(5, 1); nodeCount()",
                "buildCount() = 1; removeWall(0); undo(); nodeCount(); buildCount() = 1");
        holds(walls(1, 0), "nodeCount(); moveWall(0, 1, 0); buildCount() = 1; moveWall(0, 1, 0)",
                "nodeCount(); buildCount() = 2; undo(); undo(); nodeCount(); buildCount() = 3");
    }

    static void promise30_theTreeIsAlwaysThatOfThePresentWalls() {
        holds(CUT, "pieceCount() = 2; setWeights(0, 1); pieceCount() = 3; nodeWall(0) = 1",
                "addWall(0, 25, 63, 25, 0, 1); pieceCount() = 5; moveWall(2, 0, 10)",
                "pieceCount() = 5; removeWall(1); pieceCount() = 2; undo(); pieceCount() = 5");
    }

    public static void main(String[] args) throws Exception {
        runAll(TreeEdgesTest.class, 19, 30);
    }
}
