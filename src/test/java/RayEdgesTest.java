/** The boundary cases of promises 35 to 41: what blocks a way, what a column hits, what is seen. */
public final class RayEdgesTest extends Edges {
    /** From (30, 32) to the right, column c is 63 - 2c high where this wall is. */
    private static final String SCREEN = "addWall(62, 0, 62, 63, 0, 0) = 0;";

    /** Side values for this wall tell how far a point is above 10. */
    private static final String SHORT = "addWall(10, 10, 11, 10, 0, 0) = 0;";

    // ---- 35: blocker

    static void promise35_pointsAreFrom0To63() {
        refusesBadPoints("blocker(X, Y, 9, 8)");
        refusesBadPoints("blocker(9, 8, X, Y)");
        takesCorners("", "blocker(X, Y, 9, 8)", -8);
        takesCorners("", "blocker(9, 8, X, Y)", -8);
        String cross = "addWall(0, 31, 63, 32, 0, 0); addWall(31, 63, 32, 0, 0, 1);";
        holds(cross, "blocker(0, 0, 0, 63) = 0; blocker(63, 63, 63, 0) = 0; blocker(0, 0, 63, 0) = 1",
                "blocker(63, 63, 0, 63) = 1; blocker(0, 0, 63, 63) = 0; blocker(63, 0, 0, 63) = 0");
    }

    static void promise35_aWayLeadsToADifferentPoint() {
        changesNothing(SOME, "blocker(9, 9, 9, 9) = -2");
        changesNothing(SOME, "blocker(0, 0, 0, 0) = -2");
        changesNothing(SOME, "blocker(63, 63, 63, 63) = -2");
        changesNothing("", "blocker(30, 20, 30, 20) = -2");
        holds("blocker(9, 9, 8, 9) = -8; blocker(9, 9, 10, 9) = -8; blocker(9, 9, 9, 8) = -8",
                "blocker(9, 9, 9, 10) = -8; blocker(9, 9, 10, 8) = -8");
        holds("addWall(9, 0, 9, 63, 0, 0); blocker(8, 9, 9, 9) = 0; blocker(10, 9, 9, 9) = 0");
    }

    static void promise35_theDistanceIsAtMost1() {
        holds("addWall(20, 10, 20, 30, 0, 0); blocker(10, 20, 19, 20) = -8; blocker(10, 20, 20, 20) = 0",
                "blocker(10, 20, 21, 20) = 0; blocker(20, 63, 20, 31) = -8");
        // the wall crosses the way at 8 - 1/54, at 8 and at 8 + 1/54
        holds("addWall(8, 9, 7, 63, 0, 0); blocker(0, 10, 8, 10) = 0; blocker(0, 10, 7, 10) = -8");
        holds("addWall(8, 9, 8, 63, 0, 0); blocker(0, 10, 8, 10) = 0; blocker(0, 10, 7, 10) = -8");
        holds("addWall(8, 9, 9, 63, 0, 0); blocker(0, 10, 8, 10) = -8; blocker(0, 10, 9, 10) = 0");
        holds("addWall(8, 9, 9, 63, 0, 0); blocker(16, 10, 8, 10) = 0; blocker(16, 10, 9, 10) = -8");
    }

    static void promise35_theDistanceIsAbove0() {
        String wall = "addWall(20, 10, 20, 30, 0, 0);";
        holds(wall, "blocker(19, 20, 20, 20) = 0; blocker(20, 20, 21, 20) = -8",
                "blocker(20, 20, 19, 20) = -8; blocker(21, 20, 22, 20) = -8");
        holds(wall, "blocker(20, 10, 30, 10) = -8; blocker(20, 30, 10, 40) = -8");
    }

    static void promise35_bothEndsOfAWallAreHit() {
        String wall = "addWall(20, 10, 20, 30, 0, 0);";
        for (String turned : new String[] {"", "turnWall(0);"}) {
            holds(wall + turned, "blocker(10, 9, 30, 9) = -8; blocker(10, 10, 30, 10) = 0",
                    "blocker(10, 11, 30, 11) = 0; blocker(10, 29, 30, 29) = 0",
                    "blocker(10, 30, 30, 30) = 0; blocker(10, 31, 30, 31) = -8");
        }
        // the way passes 1/63 below (1, 1)
        holds("addWall(1, 1, 0, 5, 0, 0); blocker(0, 0, 63, 62) = -8");
        holds("addWall(1, 1, 1, 0, 0, 0); blocker(0, 0, 63, 62) = 0");
        holds("addWall(62, 61, 63, 0, 0, 0); blocker(0, 0, 63, 62) = -8");
        holds("addWall(62, 61, 62, 63, 0, 0); blocker(0, 0, 63, 62) = 0");
    }

    static void promise35_aParallelWallIsNotHit() {
        holds("addWall(20, 10, 20, 30, 0, 0); blocker(20, 0, 20, 63) = -8; blocker(20, 63, 20, 20) = -8",
                "blocker(20, 15, 20, 25) = -8; blocker(19, 15, 19, 25) = -8");
        holds("addWall(10, 10, 30, 40, 0, 0); blocker(12, 13, 28, 37) = -8; blocker(8, 7, 32, 43) = -8");
    }

    static void promise35_ofSeveralHitsAtTheLeastDistanceItIsTheLowestWall() {
        holds("addWall(20, 10, 20, 30, 0, 1); addWall(15, 15, 25, 25, 0, 0)",
                "blocker(10, 20, 30, 20) = 0; blocker(10, 21, 30, 21) = 0; blocker(10, 19, 30, 19) = 1",
                "removeWall(0); addWall(25, 15, 15, 25, 0, 1); blocker(10, 20, 30, 20) = 0");
    }

    static void promise35_onlyOpaqueWallsBlock() {
        String up = SHORT.replace("= 0", "") + "setKind(0, KIND);";
        holds(up.replace("KIND", "0"), "blocker(10, 11, 10, 9) = 0; blocker(10, 9, 10, 11) = 0");
        holds(up.replace("KIND", "1"), "blocker(10, 11, 10, 9) = -8; blocker(10, 9, 10, 11) = -8");
        holds(up.replace("KIND", "2"), "blocker(10, 11, 10, 9) = 0; blocker(10, 9, 10, 11) = -8");
        holds("addWall(20, 10, 20, 30, 2, 0); blocker(19, 20, 21, 20) = 0; blocker(21, 20, 19, 20) = -8",
                "blocker(20, 9, 20, 31) = -8; blocker(20, 20, 21, 20) = -8");
    }

    static void promise35_aGlassWallInFrontDoesNotHideOne() {
        holds("addWall(20, 10, 20, 30, 1, 0); addWall(25, 10, 25, 30, 0, 0); blocker(10, 20, 30, 20) = 1",
                "blocker(10, 20, 24, 20) = -8");
    }

    // ---- 36: columnWall

    static void promise36_pointsAreFrom0To63() {
        refusesBadPoints("columnWall(X, Y, 1, 1, 5)");
        takesCorners("", "columnWall(X, Y, 1, 1, 5)", -8);
        holds("addWall(20, 0, 20, 63, 0, 0); columnWall(0, 0, 8, 8, 16) = 0",
                "columnWall(63, 63, -8, -8, 15) = 0; columnWall(0, 63, 8, -8, 16) = 0",
                "columnWall(63, 0, -8, 8, 15) = 0");
    }

    static void promise36_directionsAreFromMinus8To8() {
        refusesBadDirections("columnWall(9, 9, DX, DY, 5)");
        takesDirections("", "columnWall(9, 9, DX, DY, 5)", -8);
    }

    static void promise36_dxAndDyAreNotBoth0() {
        changesNothing(SOME, "columnWall(9, 9, 0, 0, 5) = -2");
        changesNothing("", "columnWall(9, 9, 0, 0, 5) = -2");
    }

    static void promise36_columnsAreFrom0To31() {
        refuses(SOME, "columnWall(30, 32, 1, 0, %)", 0, 31, -2);
        refuses("", "columnWall(30, 32, 1, 0, %)", 0, 31, -2);
        holds(SCREEN, "columnWall(30, 32, 1, 0, 0) = 0; columnWall(30, 32, 1, 0, 31) = 0");
    }

    /** Of a picture's columns, only this one hits the wall. */
    private static void onlyColumn(int column, String picture, String wall) {
        holds("addWall(" + wall + ", 0, 0) = 0", each("columnWall(" + picture + ", %) = -8", 0, column - 1),
                "columnWall(" + picture + ", " + column + ") = 0",
                each("columnWall(" + picture + ", %) = -8", column + 1, 31));
    }

    static void promise36_column0IsOnTheLeft() {
        onlyColumn(0, "30, 32, 1, 0", "62, 63, 62, 62");
        onlyColumn(0, "33, 32, -1, 0", "1, 1, 1, 2");
        onlyColumn(0, "32, 30, 0, 1", "1, 62, 2, 62");
        onlyColumn(0, "32, 33, 0, -1", "63, 1, 62, 1");
        onlyColumn(0, "0, 0, 8, 8", "1, 63, 2, 63");
        onlyColumn(0, "63, 63, -8, -8", "62, 0, 61, 0");
        onlyColumn(0, "30, 32, 8, 0", "62, 63, 62, 62");
        onlyColumn(1, "30, 32, 1, 0", "62, 62, 62, 60");
    }

    static void promise36_column31IsOnTheRight() {
        onlyColumn(31, "30, 32, 1, 0", "62, 1, 62, 2");
        onlyColumn(31, "33, 32, -1, 0", "1, 63, 1, 62");
        onlyColumn(31, "32, 30, 0, 1", "63, 62, 62, 62");
        onlyColumn(31, "32, 33, 0, -1", "1, 1, 2, 1");
        onlyColumn(31, "0, 0, 8, 8", "63, 1, 63, 2");
        onlyColumn(30, "30, 32, 1, 0", "62, 2, 62, 4");
    }

    static void promise36_withoutAFirstHitThereIsNone() {
        holds("columnWall(30, 32, 1, 0, 16) = -8", SCREEN, "columnWall(30, 32, -1, 0, 16) = -8",
                "columnWall(62, 32, 1, 0, 16) = -8; columnWall(62, 32, -1, 0, 16) = -8",
                "columnWall(61, 32, 1, 0, 16) = 0; columnWall(63, 32, -1, 0, 16) = 0",
                "columnWall(63, 32, 1, 0, 16) = -8; setKind(0, 1); columnWall(30, 32, 1, 0, 16) = -8");
    }

    static void promise36_ofSeveralHitsItIsTheNearestThenTheLowest() {
        String walls = "addWall(46, 63, 46, 0, 0, 0); addWall(45, 0, 45, 63, 0, 0);"
                + "addWall(45, 20, 45, 40, 0, 1);";
        holds(walls, "columnWall(30, 32, 1, 0, 16) = 1; columnWall(50, 32, -1, 0, 16) = 0");
        holds(walls, "moveWall(1, 1, 0); columnWall(30, 32, 1, 0, 16) = 2; removeWall(2)",
                "columnWall(30, 32, 1, 0, 16) = 0; removeWall(0); columnWall(30, 32, 1, 0, 16) = 1");
        holds(walls, "setKind(1, 2); columnWall(30, 32, 1, 0, 16) = 1; turnWall(1)",
                "columnWall(30, 32, 1, 0, 16) = 2; setKind(2, 1); columnWall(30, 32, 1, 0, 16) = 0");
    }

    /** The distances 2389/16708 and 637/4455 are the same as floats. */
    static void promise36_distancesAreComparedExactly() {
        String near = "addWall(63, 54, 28, 7, 0, 0)";
        String far = "addWall(36, 18, 48, 29, 0, 0)";
        holds(far, "columnDistance(1, 39, 7, 1, 28, 0) = 637; columnDistance(1, 39, 7, 1, 28, 1) = 4455",
                near, "columnWall(1, 39, 7, 1, 28) = 1");
        holds(near, "columnDistance(1, 39, 7, 1, 28, 0) = 2389; columnDistance(1, 39, 7, 1, 28, 1) = 16708",
                far, "columnWall(1, 39, 7, 1, 28) = 0");
        holds(near, far, "setKind(1, 1); paneCount(1, 39, 7, 1, 28) = 0; setKind(1, 0); setKind(0, 1)",
                "paneCount(1, 39, 7, 1, 28) = 1");
    }

    static void promise36_bothEndsOfAWallAreHit() {
        for (String turned : new String[] {"", "turnWall(0);"}) {
            holds("addWall(62, 33, 62, 31, 0, 0);" + turned, "columnWall(30, 32, 1, 0, 14) = -8",
                    "columnWall(30, 32, 1, 0, 15) = 0; columnWall(30, 32, 1, 0, 16) = 0",
                    "columnWall(30, 32, 1, 0, 17) = -8");
        }
    }

    // ---- 37: columnDistance

    private static String distanceIs(String picture, int top, int bottom) {
        return "columnDistance(" + picture + ", 0) = " + top + "; columnDistance(" + picture
                + ", 1) = " + bottom;
    }

    static void promise37_pointsAreFrom0To63() {
        refusesBadPoints("columnDistance(X, Y, 1, 1, 5, 0)");
        takesCorners("", "columnDistance(X, Y, 1, 1, 5, 1)", -8);
        holds("addWall(20, 0, 20, 63, 0, 0)", distanceIs("0, 0, 8, 0, 15", 5, 64),
                distanceIs("63, 63, -8, 0, 15", 43, 256));
    }

    static void promise37_directionsAreFromMinus8To8() {
        refusesBadDirections("columnDistance(9, 9, DX, DY, 5, 0)");
        takesDirections("", "columnDistance(9, 9, DX, DY, 5, 1)", -8);
    }

    static void promise37_dxAndDyAreNotBoth0() {
        changesNothing(SOME, "columnDistance(9, 9, 0, 0, 5, 0) = -2");
        changesNothing("", "columnDistance(9, 9, 0, 0, 5, 1) = -2");
    }

    static void promise37_columnsAreFrom0To31() {
        refuses(SOME, "columnDistance(30, 32, 1, 0, %, 0)", 0, 31, -2);
        refuses("", "columnDistance(30, 32, 1, 0, %, 1)", 0, 31, -2);
        holds(SCREEN, distanceIs("30, 32, 1, 0, 0", 1, 1), distanceIs("30, 32, 1, 0, 31", 1, 1));
        holds("addWall(61, 61, 63, 63, 0, 0)", distanceIs("30, 32, 1, 0, 0", -8, -8));
    }

    static void promise37_partIs0Or1() {
        refuses(SOME, "columnDistance(30, 32, 1, 0, 5, %)", 0, 1, -2);
        refuses(SCREEN, "columnDistance(30, 32, 1, 0, 5, %)", 0, 1, -2);
        refuses("", "columnDistance(30, 32, 1, 0, 5, %)", 0, 1, -2);
        holds("addWall(46, 0, 46, 63, 0, 0)", distanceIs("30, 32, 1, 0, 16", 1, 2));
    }

    static void promise37_withoutAFirstHitThereIsNone() {
        holds(distanceIs("30, 32, 1, 0, 16", -8, -8), SCREEN, distanceIs("30, 32, -1, 0, 16", -8, -8),
                distanceIs("62, 32, 1, 0, 16", -8, -8), "setKind(0, 1)",
                distanceIs("30, 32, 1, 0, 16", -8, -8));
    }

    static void promise37_theFractionIsInLowestTermsWithAPositiveDenominator() {
        for (String turned : new String[] {"", "turnWall(0)"}) {
            holds("addWall(46, 14, 46, 46, 0, 0)", turned, distanceIs("30, 30, 1, 0, 16", 1, 2),
                    distanceIs("62, 30, -1, 0, 16", 1, 2), distanceIs("30, 30, 8, 0, 16", 1, 16),
                    distanceIs("45, 30, 1, 0, 16", 1, 32), distanceIs("47, 30, -8, 0, 16", 1, 256));
            holds("addWall(40, 20, 60, 41, 0, 0)", turned, distanceIs("30, 32, 1, 0, 16", 225, 346));
        }
    }

    // ---- 38: paneCount

    static void promise38_pointsAreFrom0To63() {
        refusesBadPoints("paneCount(X, Y, 1, 1, 5)");
        takesCorners("", "paneCount(X, Y, 1, 1, 5)", 0);
    }

    static void promise38_directionsAreFromMinus8To8() {
        refusesBadDirections("paneCount(9, 9, DX, DY, 5)");
        takesDirections("", "paneCount(9, 9, DX, DY, 5)", 0);
    }

    static void promise38_dxAndDyAreNotBoth0() {
        changesNothing(SOME, "paneCount(9, 9, 0, 0, 5) = -2");
        changesNothing("", "paneCount(9, 9, 0, 0, 5) = -2");
    }

    static void promise38_columnsAreFrom0To31() {
        refuses(SOME, "paneCount(30, 32, 1, 0, %)", 0, 31, -2);
        refuses("", "paneCount(30, 32, 1, 0, %)", 0, 31, -2);
        holds("addWall(62, 63, 62, 62, 1, 0); paneCount(30, 32, 1, 0, 0) = 1; paneCount(30, 32, 1, 0, 1) = 0");
        holds("addWall(62, 1, 62, 0, 1, 0); paneCount(30, 32, 1, 0, 31) = 1; paneCount(30, 32, 1, 0, 30) = 0");
    }

    static void promise38_theDistanceIsLessThanThatOfTheFirstHit() {
        String walls = "addWall(40, 0, 40, 63, 1, 0); addWall(45, 0, 45, 63, 0, 0);";
        holds(walls, "paneCount(30, 32, 1, 0, 16) = 1; moveWall(0, 4, 0); paneCount(30, 32, 1, 0, 16) = 1",
                "moveWall(0, 1, 0); paneCount(30, 32, 1, 0, 16) = 0; moveWall(0, 1, 0)",
                "paneCount(30, 32, 1, 0, 16) = 0; removeWall(1); paneCount(30, 32, 1, 0, 16) = 1");
        holds("addWall(45, 0, 45, 63, 0, 0); addWall(45, 0, 44, 63, 1, 0); paneCount(30, 1, 1, 0, 16) = 1",
                "turnWall(1); paneCount(30, 1, 1, 0, 16) = 1; moveWall(1, 1, 0)",
                "paneCount(30, 1, 1, 0, 16) = 0");
    }

    static void promise38_withoutAFirstHitAllAreCounted() {
        holds(each("addWall(40, 0, 40, 63, 1, 0) = %", 0, 11), "paneCount(30, 32, 1, 0, 16) = 12",
                "paneCount(30, 32, -1, 0, 16) = 0; setKind(5, 0); paneCount(30, 32, 1, 0, 16) = 0",
                "setKind(5, 2); paneCount(30, 32, 1, 0, 16) = 0; turnWall(5)",
                "paneCount(30, 32, 1, 0, 16) = 11; removeWall(6); paneCount(30, 32, 1, 0, 16) = 10");
    }

    static void promise38_aPaneAtTheEyeOrBehindItIsNotHit() {
        String pane = "addWall(40, 0, 40, 63, 1, 1);";
        holds(pane, "paneCount(39, 32, 1, 0, 16) = 1; paneCount(40, 32, 1, 0, 16) = 0",
                "paneCount(41, 32, 1, 0, 16) = 0; paneCount(40, 32, 0, 1, 16) = 0");
        holds("addWall(62, 33, 62, 31, 1, 0); paneCount(30, 32, 1, 0, 14) = 0",
                "paneCount(30, 32, 1, 0, 15) = 1; paneCount(30, 32, 1, 0, 16) = 1",
                "paneCount(30, 32, 1, 0, 17) = 0");
    }

    // ---- 39: seenColumns

    static void promise39_pointsAreFrom0To63() {
        refusesBadPoints("seenColumns(X, Y, 1, 1, 0)");
        takesCorners("addWall(20, 30, 21, 30, 1, 0)", "seenColumns(X, Y, 1, 1, 0)", 0);
    }

    static void promise39_directionsAreFromMinus8To8() {
        refusesBadDirections("seenColumns(9, 9, DX, DY, 0)");
        takesDirections("addWall(20, 30, 21, 30, 1, 0)", "seenColumns(9, 9, DX, DY, 0)", 0);
    }

    static void promise39_dxAndDyAreNotBoth0() {
        changesNothing(SOME, "seenColumns(9, 9, 0, 0, 0) = -2");
    }

    static void promise39_numbersAreFrom0To11() {
        refuses(walls(12, 0), "seenColumns(30, 32, -1, 0, %)", 0, 11, -1);
        holds(walls(12, 0), "seenColumns(30, 4, -1, 0, 11) = 7; seenColumns(30, 4, -1, 0, 0) = 0");
        holds(walls(12, 0), "seenColumns(0, 4, 1, 0, 0) = 0; seenColumns(0, 4, 1, 0, 1) = 32");
    }

    static void promise39_aNumberThatNoWallHasIsRefused() {
        changesNothing(SOME, "seenColumns(9, 9, 1, 1, 1) = -1");
        changesNothing(SOME, "seenColumns(9, 9, 1, 1, 3) = -1");
        changesNothing("", "seenColumns(9, 9, 1, 1, 0) = -1");
        changesNothing("", "seenColumns(9, 9, 1, 1, -8) = -1");
    }

    static void promise39_badValueIsReportedBeforeNoSuchWall() {
        changesNothing(SOME, "seenColumns(9, 9, 0, 0, 1) = -2");
        changesNothing(SOME, "seenColumns(64, 9, 1, 0, 12) = -2");
        changesNothing(SOME, "seenColumns(9, -1, 1, 0, -1) = -2");
        changesNothing(SOME, "seenColumns(9, 9, 9, 0, HIGH) = -2");
        changesNothing("", "seenColumns(9, 9, 0, -9, LOW) = -2");
    }

    static void promise39_isFrom0To32() {
        holds(SCREEN, "seenColumns(30, 32, 1, 0, 0) = 32; seenColumns(30, 32, -1, 0, 0) = 0");
        holds("addWall(62, 1, 62, 63, 0, 0); seenColumns(30, 32, 1, 0, 0) = 32");
        holds("addWall(62, 1, 62, 62, 0, 0); seenColumns(30, 32, 1, 0, 0) = 31");
        holds("addWall(62, 2, 62, 63, 0, 0); seenColumns(30, 32, 1, 0, 0) = 31");
        holds(SCREEN, "addWall(61, 0, 61, 32, 0, 0); seenColumns(30, 32, 1, 0, 0) = 16",
                "seenColumns(30, 32, 1, 0, 1) = 16; setKind(1, 1); seenColumns(30, 32, 1, 0, 0) = 32",
                "seenColumns(30, 32, 1, 0, 1) = 0");
    }

    // ---- 40: seenPoints

    static void promise40_pointsAreFrom0To63() {
        refusesBadPoints("seenPoints(X, Y)");
        holds("seenPoints(0, 0) = 63; seenPoints(63, 0) = 64; seenPoints(0, 63) = 64; seenPoints(63, 63) = 64");
    }

    static void promise40_thePointOfViewDoesNotCount() {
        holds("seenPoints(8, 16) = 63; seenPoints(56, 56) = 63; seenPoints(8, 15) = 64",
                "seenPoints(7, 16) = 64; seenPoints(57, 56) = 64; seenPoints(56, 0) = 63");
    }

    static void promise40_thePointsHaveCoordinatesFrom0To56() {
        holds("addWall(1, 0, 1, 63, 0, 0); seenPoints(2, 1) = 56; seenPoints(0, 1) = 8",
                "moveWall(0, 56, 0); seenPoints(58, 1) = 0; seenPoints(57, 1) = 64",
                "moveWall(0, -1, 0); seenPoints(57, 1) = 0; seenPoints(55, 1) = 56");
        holds("addWall(0, 1, 63, 1, 0, 0); seenPoints(1, 2) = 56; seenPoints(1, 0) = 8",
                "moveWall(0, 0, 56); seenPoints(1, 58) = 0; seenPoints(1, 57) = 64",
                "moveWall(0, 0, -1); seenPoints(1, 57) = 0; seenPoints(1, 55) = 56");
    }

    static void promise40_aPointOnAWallIsNotSeen() {
        holds("addWall(8, 8, 8, 9, 0, 0); seenPoints(0, 8) = 56; seenPoints(9, 8) = 61");
        holds("addWall(8, 9, 8, 10, 0, 0); seenPoints(0, 0) = 60; seenPoints(8, 0) = 63");
        holds("addWall(8, 8, 9, 8, 0, 0); seenPoints(0, 8) = 63; seenPoints(8, 8) = 63");
    }

    // ---- 41: lookout

    static void promise41_whichIs0Or1() {
        refuses(SOME, "lookout(%)", 0, 1, -2);
        refuses("", "lookout(%)", 0, 1, -2);
        holds("lookout(0) = 0; lookout(1) = 63");
    }

    static void promise41_ofSeveralItIsTheOneWithTheLeastXThenTheLeastY() {
        holds("addWall(0, 4, 63, 4, 0, 0); lookout(0) = 8; lookout(1) = 55");
        holds("addWall(4, 0, 4, 63, 0, 0); lookout(0) = 512; lookout(1) = 55");
        holds("addWall(4, 0, 4, 63, 0, 0); addWall(0, 4, 63, 4, 0, 1); lookout(0) = 520; lookout(1) = 48");
        holds("addWall(52, 0, 52, 63, 0, 0); lookout(0) = 0; lookout(1) = 55");
        holds("addWall(0, 52, 63, 52, 0, 0); lookout(0) = 0; lookout(1) = 55");
    }

    static void promise41_thePointsHaveCoordinatesFrom0To56() {
        holds("addWall(55, 0, 55, 63, 2, 0); lookout(0) = 3584; lookout(1) = 63");
        holds("addWall(63, 55, 0, 55, 2, 0); lookout(0) = 56; lookout(1) = 63");
        holds("addWall(57, 0, 57, 63, 2, 0); lookout(0) = 0; lookout(1) = 63");
        holds("addWall(55, 0, 55, 63, 2, 0); addWall(63, 55, 0, 55, 2, 1); lookout(0) = 3640; lookout(1) = 63");
    }

    public static void main(String[] args) throws Exception {
        runAll(RayEdgesTest.class, 35, 41);
    }
}
