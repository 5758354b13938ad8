/** The boundary cases of promises 42 to 49: walking, distances, and other trees. */
public final class OtherEdgesTest extends Edges {
    private static final String UPRIGHT = "addWall(20, 10, 20, 30, 0, 0) = 0;";
    private static final String LEVEL = "addWall(10, 10, 20, 10, 0, 0) = 0;";

    /** The line of wall 0 cuts wall 1, but not the other way round. */
    private static final String CUTTER =
            "addWall(20, 20, 20, 30, 0, 0) = 0; addWall(10, 10, 30, 10, 0, 0) = 1;";

    private static String walk(int x, int y, int dx, int dy, int toX, int toY) {
        return "walk(" + x + ", " + y + ", " + dx + ", " + dy + ") = " + (64 * toX + toY);
    }

    private static String wander(int x, int y, String state, int steps, int toX, int toY) {
        return "wander(" + x + ", " + y + ", " + state + ", " + steps + ") = " + (64 * toX + toY);
    }

    private static String clear(int x, int y, long top, long bottom) {
        return "clearance(" + x + ", " + y + ", 0) = " + top
                + "; clearance(" + x + ", " + y + ", 1) = " + bottom;
    }

    // ---- 42: walk

    static void promise42_pointsAreFrom0To63() {
        refusesBadPoints("walk(X, Y, 1, 1)");
        refusesBadPoints("walk(X, Y, 0, 0)");
        holds(walk(0, 0, 0, 0, 0, 0), walk(63, 0, 0, 0, 63, 0), walk(0, 63, 0, 0, 0, 63),
                walk(63, 63, 0, 0, 63, 63));
    }

    static void promise42_dxAndDyAreFromMinus8To8() {
        refusesBadDirections("walk(20, 20, DX, DY)");
        holds(walk(20, 20, 8, 8, 28, 28), walk(20, 20, -8, -8, 12, 12), walk(20, 20, 8, -8, 28, 12),
                walk(20, 20, 7, 0, 27, 20), walk(20, 20, 0, -7, 20, 13));
    }

    static void promise42_theMoveMayBeNone() {
        holds(walk(20, 20, 0, 0, 20, 20), UPRIGHT, walk(20, 20, 0, 0, 20, 20));
    }

    static void promise42_theWayLeadsToAPointFrom0To63() {
        holds(walk(55, 55, 8, 8, 63, 63), walk(56, 55, 8, 8, 56, 63), walk(55, 56, 8, 8, 63, 56),
                walk(56, 56, 8, 8, 56, 56), walk(63, 63, 1, 1, 63, 63), walk(62, 62, 1, 1, 63, 63));
        holds(walk(8, 8, -8, -8, 0, 0), walk(7, 8, -8, -8, 7, 0), walk(8, 7, -8, -8, 0, 7),
                walk(7, 7, -8, -8, 7, 7), walk(0, 0, -1, -1, 0, 0), walk(1, 1, -1, -1, 0, 0));
        holds(walk(63, 5, 1, 0, 63, 5), walk(5, 63, 0, 1, 5, 63), walk(0, 5, -1, 0, 0, 5),
                walk(5, 0, 0, -1, 5, 0));
    }

    static void promise42_aWayThatIsBlockedIsNotTaken() {
        holds(UPRIGHT, walk(18, 20, 1, 0, 19, 20), walk(18, 20, 2, 0, 18, 20),
                walk(18, 20, 3, 0, 18, 20), walk(20, 20, 1, 0, 21, 20), walk(20, 20, 0, 5, 20, 25),
                walk(18, 9, 3, 0, 21, 9), walk(18, 10, 3, 0, 18, 10), walk(18, 30, 3, 0, 18, 30),
                walk(18, 31, 3, 0, 21, 31));
        holds(UPRIGHT, "setKind(0, 2)", walk(19, 20, 2, 0, 19, 20), walk(21, 20, -2, 0, 19, 20),
                "setKind(0, 1)", walk(19, 20, 2, 0, 21, 20));
    }

    static void promise42_theFirstMoveThatIsPossibleIsMade() {
        holds(UPRIGHT, walk(19, 20, 3, 2, 19, 22), walk(19, 20, 3, -2, 19, 18));
        holds(LEVEL, walk(15, 9, 2, 3, 17, 9), walk(15, 9, -2, 3, 13, 9));
        holds(UPRIGHT, "addWall(0, 9, 19, 9, 0, 0)", walk(18, 10, 2, -2, 18, 10),
                walk(18, 10, 2, -1, 20, 9), walk(18, 10, 1, -1, 19, 10));
        holds("addWall(21, 21, 21, 22, 0, 0)", walk(20, 20, 2, 3, 22, 20));
    }

    // ---- 43: wander

    static void promise43_pointsAreFrom0To63() {
        refusesBadPoints("wander(X, Y, 1, 9)");
        holds(wander(0, 0, "0", 1, 0, 3), wander(63, 63, "0", 1, 60, 63), wander(0, 63, "0", 1, 0, 63),
                wander(63, 0, "0", 1, 60, 3));
    }

    static void promise43_stateIs0OrMore() {
        refuses(SOME, "wander(30, 30, %, 1)", 0, Integer.MAX_VALUE, -2);
        holds(wander(30, 30, "0", 1, 27, 33), wander(30, 30, "1", 1, 30, 31),
                wander(30, 30, "HIGH", 1, 31, 33));
    }

    static void promise43_stepsAreFrom1To60() {
        refuses(SOME, "wander(30, 30, 1, %)", 1, 60, -2);
        holds(wander(30, 30, "0", 1, 27, 33), wander(30, 30, "0", 2, 30, 34),
                wander(5, 5, "7", 60, 21, 21), wander(30, 30, "5", 58, 25, 44),
                wander(30, 30, "5", 59, 26, 47), wander(30, 30, "5", 60, 27, 45));
    }

    static void promise43_theStateIsComputedWithoutOverflow() {
        holds(wander(30, 30, "HIGH", 2, 34, 36), wander(30, 30, "HIGH", 3, 36, 35),
                wander(30, 30, "2147483646", 3, 34, 26), wander(30, 30, "1073741824", 3, 30, 27));
    }

    static void promise43_aMoveIsMadeAsByWalk() {
        holds("addWall(20, 32, 40, 32, 0, 0)", wander(30, 30, "0", 1, 27, 30));
        holds("addWall(28, 20, 28, 40, 0, 0)", wander(30, 30, "0", 1, 30, 33));
        holds("addWall(28, 20, 28, 40, 0, 0); addWall(20, 32, 40, 32, 0, 1)",
                wander(30, 30, "0", 1, 30, 30));
        holds("addWall(28, 20, 28, 40, 1, 0)", wander(30, 30, "0", 1, 27, 33));
    }

    // ---- 44: nearestWall

    static void promise44_pointsAreFrom0To63() {
        refusesBadPoints("nearestWall(X, Y)");
        takesCorners("addWall(20, 30, 40, 30, 1, 1)", "nearestWall(X, Y)", 0);
        takesCorners("", "nearestWall(X, Y)", -8);
        holds("addWall(31, 0, 31, 63, 0, 0); addWall(32, 0, 32, 63, 2, 1); nearestWall(0, 0) = 0",
                "nearestWall(0, 63) = 0; nearestWall(63, 0) = 1; nearestWall(63, 63) = 1");
    }

    static void promise44_withoutWallsThereIsNone() {
        holds("nearestWall(9, 9) = -8", UPRIGHT, "nearestWall(9, 9) = 0; removeWall(0); nearestWall(9, 9) = -8");
    }

    static void promise44_ofSeveralItIsTheLowest() {
        String walls = "addWall(10, 10, 20, 10, 1, 1) = 0; addWall(10, 20, 20, 20, 2, 0) = 1;";
        holds(walls, "nearestWall(15, 14) = 0; nearestWall(15, 15) = 0; nearestWall(15, 16) = 1",
                "removeWall(0); nearestWall(15, 14) = 1; addWall(20, 20, 10, 20, 0, 0)",
                "nearestWall(15, 16) = 0; nearestWall(5, 25) = 0");
        holds(each("addWall(10, 10, 20, 10, 0, 0) = %", 0, 11), "nearestWall(15, 14) = 0; removeWall(0)",
                "nearestWall(15, 14) = 1");
    }

    static void promise44_fractionsAreComparedExactly() {
        // (0, 5) is 3 away from wall 1: 30 squared / 100
        holds("addWall(3, 3, 3, 15, 0, 0); addWall(0, 0, 6, 8, 0, 0); nearestWall(0, 5) = 0");
        holds("addWall(0, 0, 6, 8, 0, 0); addWall(3, 3, 3, 15, 0, 0); nearestWall(0, 5) = 0");
        // 16/25 is less than 1, and 1 is less than 36/25
        holds("addWall(5, 0, 5, 9, 0, 0); addWall(0, 0, 3, 4, 0, 0); nearestWall(3, 3) = 1",
                "nearestWall(4, 3) = 0; nearestWall(4, 4) = 0");
    }

    /** Products of these squared distances need more than 32 bits, and floats are not exact enough. */
    static void promise44_greatFractionsAreComparedExactly() {
        holds("addWall(0, 1, 63, 63, 0, 0); addWall(0, 0, 63, 62, 0, 0); nearestWall(62, 0) = 1");
        holds("addWall(0, 0, 63, 62, 0, 0); addWall(0, 1, 63, 63, 0, 0); nearestWall(62, 0) = 0");
        String near = "addWall(21, 6, 38, 44, 0, 0)";
        String far = "addWall(4, 21, 44, 32, 0, 0)";
        holds(far, clear(46, 11, 743044, 1721), near, "nearestWall(46, 11) = 1");
        holds(near, clear(46, 11, 748225, 1733), far, "nearestWall(46, 11) = 0");
    }

    static void promise44_theNearestPointMayBeAnEnd() {
        holds(LEVEL, "addWall(24, 10, 34, 10, 0, 0) = 1",
                "nearestWall(21, 10) = 0; nearestWall(22, 10) = 0; nearestWall(23, 10) = 1",
                "nearestWall(22, 0) = 0; turnWall(0); turnWall(1); nearestWall(22, 63) = 0");
    }

    // ---- 45: clearance

    static void promise45_pointsAreFrom0To63() {
        refusesBadPoints("clearance(X, Y, 0)");
        refusesBadPoints("clearance(X, Y, 1)");
        takesCorners("", "clearance(X, Y, 0)", -8);
        holds("addWall(0, 0, 0, 1, 0, 0)", clear(63, 63, 7813, 1), clear(0, 63, 3844, 1),
                clear(63, 0, 3969, 1), clear(0, 0, 0, 1));
    }

    static void promise45_partIs0Or1() {
        refuses(SOME, "clearance(9, 9, %)", 0, 1, -2);
        refuses("", "clearance(9, 9, %)", 0, 1, -2);
        holds("addWall(0, 0, 3, 4, 0, 0)", clear(1, 0, 16, 25));
    }

    static void promise45_withoutWallsThereIsNone() {
        holds(clear(9, 9, -8, -8), UPRIGHT, clear(9, 20, 121, 1), "removeWall(0)", clear(9, 9, -8, -8));
    }

    static void promise45_theFractionIsInLowestTerms() {
        holds("addWall(0, 0, 6, 8, 0, 0)", clear(1, 0, 16, 25), clear(0, 5, 9, 1), clear(3, 4, 0, 1),
                clear(6, 8, 0, 1), clear(1, 1, 1, 25), clear(7, 8, 1, 1));
        holds("addWall(0, 63, 63, 0, 2, 0)", clear(63, 63, 3969, 2), clear(1, 63, 1, 2));
        holds("addWall(63, 62, 0, 0, 0, 0)", clear(62, 0, 3844L * 3844L, 7813), clear(1, 1, 1, 7813));
    }

    static void promise45_theNearestPointIsOnTheWall() {
        for (String turned : new String[] {"", "turnWall(0)"}) {
            holds(LEVEL, turned, clear(8, 5, 29, 1), clear(9, 5, 26, 1), clear(10, 5, 25, 1),
                    clear(11, 5, 25, 1), clear(19, 5, 25, 1), clear(20, 5, 25, 1), clear(21, 5, 26, 1),
                    clear(22, 5, 29, 1), clear(15, 10, 0, 1), clear(21, 10, 1, 1), clear(9, 10, 1, 1));
        }
        // the foot is one step before the start, on it, one step behind it, and so on at the end
        holds("addWall(10, 10, 13, 12, 0, 0)", clear(9, 11, 2, 1), clear(8, 13, 13, 1),
                clear(11, 9, 25, 13), clear(12, 13, 25, 13), clear(11, 15, 13, 1), clear(14, 11, 2, 1));
        // the foot of (4, 3) is beyond the end (3, 3), that of (3, 3) is the end, (2, 3) is before it
        holds("addWall(0, 0, 3, 3, 0, 0)", clear(4, 3, 1, 1), clear(3, 3, 0, 1), clear(2, 3, 1, 2),
                clear(2, 4, 2, 1), clear(1, 4, 9, 2), clear(2, 5, 5, 1));
    }

    // ---- 46: piecesWith

    static void promise46_splitIsFrom0To9() {
        refuses(SOME, "piecesWith(%, 1)", 0, 9, -2);
        refuses("", "piecesWith(%, 1)", 0, 9, -2);
        holds(CUTTER, "piecesWith(0, 1) = 3; piecesWith(9, 1) = 2; piecesWith(9, 9) = 3; piecesWith(8, 9) = 3");
    }

    static void promise46_balanceIsFrom0To9() {
        refuses(SOME, "piecesWith(1, %)", 0, 9, -2);
        refuses("", "piecesWith(1, %)", 0, 9, -2);
        holds(CUTTER, "piecesWith(1, 0) = 2; piecesWith(1, 9) = 3; piecesWith(9, 8) = 2; piecesWith(0, 0) = 3");
    }

    static void promise46_withoutFixedWallsThereIsNone() {
        holds("piecesWith(0, 0) = 0; piecesWith(9, 9) = 0", walls(12, 1), "piecesWith(5, 1) = 0");
    }

    static void promise46_movableWallsAreLeftOut() {
        holds(CUTTER, "addWall(0, 25, 63, 25, 0, 1); piecesWith(9, 1) = 2; pieceCount() = 4");
    }

    static void promise46_theWeightsStay() {
        changesNothing(CUTTER, "piecesWith(0, 1) = 3");
        changesNothing(CUTTER + "pieceCount() = 2", "piecesWith(0, 1) = 3");
        holds(CUTTER, "pieceCount() = 2; piecesWith(0, 1) = 3; pieceCount() = 2; weights() = 51");
    }

    // ---- 47: bestWeights

    static void promise47_withoutFixedWallsItIs0() {
        holds("bestWeights() = 0", walls(12, 1), "bestWeights() = 0");
    }

    static void promise47_theFewestPiecesComeFirst() {
        holds(CUTTER, "bestWeights() = 10");
        holds(CUTTER, "addWall(0, 25, 63, 25, 0, 1); bestWeights() = 10");
        // the weights 0 and 1 would lead to a tree of less depth, but of more pieces
        holds("addWall(0, 60, 50, 50, 0, 0); addWall(10, 10, 20, 40, 0, 0)",
                "addWall(40, 50, 30, 50, 0, 0); addWall(30, 10, 10, 60, 0, 0); bestWeights() = 0");
    }

    private static void bestOf(int best, int... coordinates) {
        StringBuilder walls = new StringBuilder();
        for (int i = 0; i < coordinates.length; i += 4) {
            walls.append("addWall(" + coordinates[i] + ", " + coordinates[i + 1] + ", "
                    + coordinates[i + 2] + ", " + coordinates[i + 3] + ", 0, 0);");
        }
        holds(walls.toString(), "bestWeights() = " + best);
    }

    /** With weights up to 2 or up to 4, the best of these would be others. */
    static void promise47_theWeightsAreFrom0To3() {
        bestOf(31, 0, 12, 0, 48, 18, 6, 36, 36, 48, 18, 24, 18, 30, 48, 24, 54, 24, 6, 48, 6,
                6, 0, 54, 6, 36, 42, 48, 36, 12, 18, 36, 36);
        bestOf(11, 42, 36, 42, 0, 54, 30, 24, 30, 48, 54, 24, 12, 42, 48, 6, 6, 12, 6, 24, 6,
                24, 12, 54, 6);
        bestOf(23, 54, 6, 6, 54, 0, 6, 6, 24, 54, 30, 24, 30, 12, 36, 0, 42, 0, 42, 36, 48,
                54, 30, 0, 54, 42, 54, 0, 18);
        bestOf(10, 42, 36, 0, 48, 54, 6, 24, 48, 12, 12, 54, 42, 42, 24, 36, 30, 54, 48, 24, 30,
                18, 24, 6, 36, 36, 6, 6, 36);
    }

    static void promise47_movableWallsAreLeftOut() {
        holds(walls(3, 0), "bestWeights() = 1", each("addWall(0, 10, 0, 1%, 0, 1)", 1, 4),
                "bestWeights() = 1");
        holds("addWall(10, 0, 10, 9, 0, 0); addWall(11, 0, 11, 9, 0, 0); addWall(12, 0, 12, 9, 0, 0)",
                "addWall(9, 0, 9, 9, 0, 1); addWall(8, 0, 8, 9, 0, 1); addWall(7, 0, 7, 9, 0, 1)",
                "addWall(6, 0, 6, 9, 0, 1); bestWeights() = 1");
    }

    static void promise47_ofSeveralTheGreatestDepthIsLeast() {
        holds(walls(2, 0), "bestWeights() = 0");
        holds(walls(3, 0), "bestWeights() = 1; removeWall(1); bestWeights() = 0");
        holds(walls(12, 0), "bestWeights() = 1");
        // with the weights 0 and 1 the mean depth would be less, but not the greatest
        bestOf(0, 0, 10, 40, 10, 40, 40, 30, 60, 40, 40, 40, 0, 30, 20, 60, 40);
    }

    static void promise47_ofSeveralTheNumberIsLeast() {
        holds(walls(1, 0), "bestWeights() = 0");
        holds(CUTTER, "piecesWith(1, 0) = 2; piecesWith(2, 0) = 2; piecesWith(2, 1) = 2; bestWeights() = 10");
    }

    static void promise47_thePresentWeightsDoNotMatter() {
        changesNothing(SOME, "bestWeights() = 0");
        holds("setWeights(9, 0)", CUTTER, "bestWeights() = 10; weights() = 90; setWeights(0, 9)",
                "bestWeights() = 10; weights() = 9; buildCount() = 0");
    }

    // ---- 48 and 49: leastPieces and bestRoot

    static void promise48_withoutFixedWallsItIs0() {
        holds("leastPieces() = 0", walls(12, 1), "leastPieces() = 0");
    }

    static void promise48_thereAreAtMost5FixedWalls() {
        holds(walls(4, 0), "leastPieces() = 4", "addWall(30, 0, 30, 9, 0, 0); leastPieces() = 5",
                "addWall(31, 0, 31, 9, 0, 0); leastPieces() = -5; removeWall(2); leastPieces() = 5");
        changesNothing(walls(6, 0), "leastPieces() = -5");
        changesNothing(walls(12, 0), "leastPieces() = -5");
        holds(walls(5, 0), each("addWall(0, %, 63, %, 0, 1) = %", 5, 11), "leastPieces() = 5");
    }

    static void promise48_anyWallOfTheListCanBeChosen() {
        holds(CUTTER, "piecesWith(0, 9) = 3; leastPieces() = 2");
        holds("addWall(0, 0, 20, 20, 0, 0); addWall(0, 20, 20, 0, 0, 0); leastPieces() = 3");
        holds(each("addWall(5, 5, 9, 9, 0, 0) = %", 0, 4), "leastPieces() = 5");
        String star = "addWall(0, 0, 60, 60, 0, 0); addWall(0, 10, 60, 50, 0, 0);"
                + "addWall(0, 20, 60, 40, 0, 0); addWall(0, 30, 60, 30, 0, 0);";
        holds(star, "leastPieces() = 7; addWall(0, 40, 60, 20, 0, 0); leastPieces() = 9");
        holds("addWall(0, 0, 63, 63, 0, 0); addWall(1, 0, 58, 62, 0, 0); addWall(2, 0, 53, 61, 0, 0)",
                "addWall(3, 0, 48, 60, 0, 0); leastPieces() = 10; addWall(4, 0, 43, 59, 0, 0)",
                "leastPieces() = 15; bestRoot() = 0");
    }

    static void promise48_theWeightsAndTheTreeStay() {
        changesNothing(SOME, "leastPieces() = 1");
        changesNothing(CUTTER + "pieceCount() = 2", "leastPieces() = 2");
    }

    static void promise49_withoutFixedWallsThereIsNone() {
        holds("bestRoot() = -8", walls(12, 1), "bestRoot() = -8");
        holds(walls(1, 0), "bestRoot() = 0; removeWall(0); bestRoot() = -8");
    }

    static void promise49_thereAreAtMost5FixedWalls() {
        holds(walls(4, 0), "bestRoot() = 0", "addWall(30, 0, 30, 9, 0, 0); bestRoot() = 0",
                "addWall(31, 0, 31, 9, 0, 0); bestRoot() = -5; removeWall(0); bestRoot() = 1");
        changesNothing(walls(6, 0), "bestRoot() = -5");
        changesNothing(walls(12, 0), "bestRoot() = -5");
        holds(walls(5, 0), each("addWall(0, %, 63, %, 0, 1) = %", 5, 11), "bestRoot() = 0");
    }

    static void promise49_itIsTheLowestWithWhichTheLeastCanBeReached() {
        holds(CUTTER, "bestRoot() = 1; turnWall(0); turnWall(1); bestRoot() = 1; removeWall(1)",
                "bestRoot() = 0");
        holds(CUTTER, "addWall(40, 50, 50, 50, 0, 0); bestRoot() = 1; removeWall(1); bestRoot() = 0");
        holds("addWall(1, 2, 3, 4, 0, 1)", "addWall(0, 0, 20, 20, 0, 0); addWall(0, 20, 20, 0, 0, 0)",
                "bestRoot() = 1");
    }

    static void promise49_theWeightsAndTheTreeStay() {
        changesNothing(SOME, "bestRoot() = 0");
        changesNothing(CUTTER + "pieceCount() = 2", "bestRoot() = 1");
    }

    public static void main(String[] args) throws Exception {
        runAll(OtherEdgesTest.class, 42, 49);
    }
}
