/** The boundary cases of promises 1 to 12: a new object, walls, weights and undoing. */
public final class WallEdgesTest extends Edges {
    private static final String ONE = "addWall(10, 20, 30, 40, 1, 1) = 0";

    // ---- 1: a new object

    static void promise1_isWithoutWalls() {
        holds("wallCount() = 0", each("kind(%) = -1", 0, 11));
    }

    static void promise1_hasTheWeights5And1() {
        holds("weights() = 51");
    }

    static void promise1_hasAnEmptyText() {
        holds("load() = 0; clearText() = 0; appendText(115) = 1");
    }

    static void promise1_hasNoBuilds() {
        holds("buildCount() = 0");
    }

    static void promise1_hasNothingToUndo() {
        holds("undo() = -5");
    }

    static void promise1_isApartFromOtherObjects() {
        Room one = new Room("");
        Room other = new Room("");
        one.run("addWall(1, 2, 3, 4, 0, 0) = 0; setWeights(2, 2) = 51; nodeCount() = 1");
        one.run(text("s") + "load() = -9");
        other.run("wallCount() = 0; weights() = 51; buildCount() = 0; undo() = -5");
        other.run("faultKind() = -8; clearText() = 0; nodeCount() = 0");
    }

    static void promise1_answers512Calls() {
        holds(each("setWeights(%, 1)", 0, 9).repeat(50), "undo() = 7; undo() = 6; undo() = 5",
                "undo() = 4; undo() = 3; undo() = 2; undo() = 1; undo() = 0; weights() = 11",
                "addWall(1, 2, 3, 4, 0, 0) = 0; pieceCount() = 1; buildCount() = 1");
    }

    // ---- 2: addWall

    static void promise2_x1IsFrom0To63() {
        refuses(SOME, "addWall(%, 5, 9, 9, 0, 0)", 0, 63, -2);
        holds("addWall(0, 5, 9, 9, 0, 0) = 0; coordinate(0, 0) = 0");
        holds("addWall(63, 5, 9, 9, 0, 0) = 0; coordinate(0, 0) = 63");
    }

    static void promise2_y1IsFrom0To63() {
        refuses(SOME, "addWall(5, %, 9, 9, 0, 0)", 0, 63, -2);
        holds("addWall(5, 0, 9, 9, 0, 0) = 0; coordinate(0, 1) = 0");
        holds("addWall(5, 63, 9, 9, 0, 0) = 0; coordinate(0, 1) = 63");
    }

    static void promise2_x2IsFrom0To63() {
        refuses(SOME, "addWall(9, 9, %, 5, 0, 0)", 0, 63, -2);
        holds("addWall(9, 9, 0, 5, 0, 0) = 0; coordinate(0, 2) = 0");
        holds("addWall(9, 9, 63, 5, 0, 0) = 0; coordinate(0, 2) = 63");
    }

    static void promise2_y2IsFrom0To63() {
        refuses(SOME, "addWall(9, 9, 5, %, 0, 0)", 0, 63, -2);
        holds("addWall(9, 9, 5, 0, 0, 0) = 0; coordinate(0, 3) = 0");
        holds("addWall(9, 9, 5, 63, 0, 0) = 0; coordinate(0, 3) = 63");
    }

    static void promise2_kindIsFrom0To2() {
        refuses(SOME, "addWall(1, 2, 3, 4, %, 0)", 0, 2, -2);
        holds(each("addWall(1, 2, 3, 4, %, 0) = %; kind(%) = %", 0, 2));
    }

    static void promise2_movableIs0Or1() {
        refuses(SOME, "addWall(1, 2, 3, 4, 0, %)", 0, 1, -2);
        holds("addWall(1, 2, 3, 4, 0, 0) = 0; kind(0) = 0");
        holds("addWall(1, 2, 3, 4, 0, 1) = 0; kind(0) = 10");
    }

    static void promise2_startAndEndAreDifferent() {
        changesNothing(SOME, "addWall(7, 7, 7, 7, 0, 0) = -4");
        changesNothing(SOME, "addWall(0, 0, 0, 0, 2, 1) = -4");
        changesNothing(SOME, "addWall(63, 63, 63, 63, 1, 0) = -4");
        holds("addWall(7, 7, 6, 7, 0, 0) = 0; addWall(7, 7, 8, 7, 0, 0) = 1",
                "addWall(7, 7, 7, 6, 0, 0) = 2; addWall(7, 7, 7, 8, 0, 0) = 3");
        holds("addWall(6, 7, 7, 6, 0, 0) = 0; addWall(0, 63, 63, 0, 0, 0) = 1");
    }

    static void promise2_thereIsRoomFor12Walls() {
        holds(walls(10, 0), "addWall(1, 2, 3, 4, 0, 0) = 10; wallCount() = 11");
        holds(walls(11, 0), "addWall(1, 2, 3, 4, 0, 0) = 11; wallCount() = 12");
        changesNothing(walls(12, 0), "addWall(1, 2, 3, 4, 0, 0) = -3");
        changesNothing(walls(12, 0), "addWall(1, 2, 3, 4, 0, 1) = -3");
        changesNothing(walls(12, 1), "addWall(1, 2, 3, 4, 2, 0) = -3");
        changesNothing(walls(12, 1), "addWall(1, 2, 3, 4, 1, 1) = -3");
        holds(walls(12, 0), "wallCount() = 12; nodeCount() = 12; drawCount(63, 63) = 12");
    }

    static void promise2_aRemovedOrUndoneWallLeavesRoom() {
        holds(walls(12, 0), "removeWall(11) = 11; addWall(1, 2, 3, 4, 0, 0) = 11",
                "addWall(1, 2, 3, 4, 0, 0) = -3");
        holds(walls(12, 0), "undo() = 7; addWall(1, 2, 3, 4, 0, 0) = 11",
                "addWall(1, 2, 3, 4, 0, 0) = -3");
    }

    static void promise2_theNumberIsTheLowestThatNoWallHas() {
        holds(walls(12, 0), "removeWall(11) = 11; removeWall(4) = 10; removeWall(0) = 9",
                "addWall(1, 2, 3, 4, 0, 0) = 0; addWall(1, 2, 3, 4, 0, 0) = 4",
                "addWall(1, 2, 3, 4, 0, 0) = 11; addWall(1, 2, 3, 4, 0, 0) = -3");
        holds(SOME, "addWall(1, 2, 3, 4, 0, 0) = 1; addWall(1, 2, 3, 4, 0, 0) = 3");
        holds("addWall(1, 2, 3, 4, 0, 1) = 0; addWall(1, 2, 3, 4, 0, 0) = 1; removeWall(0) = 1",
                "addWall(1, 2, 3, 4, 0, 0) = 0; kind(0) = 0");
    }

    static void promise2_badValueIsReportedBeforeZeroLength() {
        for (String bad : new String[] {"64, 5, 64, 5, 0, 0", "5, 64, 5, 64, 0, 0",
            "-1, 5, -1, 5, 0, 0", "5, -1, 5, -1, 0, 0", "5, 5, 5, 5, 3, 0", "5, 5, 5, 5, -1, 0",
            "5, 5, 5, 5, 0, 2", "5, 5, 5, 5, 0, -1", "LOW, 5, LOW, 5, 0, 0"}) {
            changesNothing(SOME, "addWall(" + bad + ") = -2");
        }
    }

    static void promise2_zeroLengthIsReportedBeforeNoRoom() {
        changesNothing(walls(12, 0), "addWall(5, 5, 5, 5, 0, 0) = -4");
    }

    static void promise2_badValueIsReportedBeforeNoRoom() {
        for (String bad : new String[] {"64, 5, 9, 9, 0, 0", "5, -1, 9, 9, 0, 0",
            "9, 9, HIGH, 5, 0, 0", "9, 9, 5, LOW, 0, 0", "9, 9, 5, 5, 3, 0", "9, 9, 5, 5, 0, 2",
            "64, 5, 64, 5, 0, 0"}) {
            changesNothing(walls(12, 1), "addWall(" + bad + ") = -2");
        }
    }

    static void promise2_wallsMayCrossTouchOrOverlap() {
        holds("addWall(0, 0, 20, 20, 0, 0) = 0; addWall(0, 20, 20, 0, 0, 0) = 1",
                "addWall(10, 10, 10, 30, 0, 0) = 2; addWall(5, 5, 30, 30, 0, 0) = 3",
                "addWall(0, 0, 20, 20, 0, 0) = 4; addWall(20, 20, 0, 0, 0, 1) = 5");
    }

    // ---- 3: removeWall

    static void promise3_numbersAreFrom0To11() {
        refuses(walls(12, 0), "removeWall(%)", 0, 11, -1);
        holds(walls(12, 0), "removeWall(0) = 11; kind(0) = -1; kind(1) = 0");
        holds(walls(12, 0), "removeWall(11) = 11; kind(11) = -1; kind(10) = 0");
    }

    static void promise3_aNumberThatNoWallHasIsRefused() {
        changesNothing(SOME, "removeWall(1) = -1");
        changesNothing(SOME, "removeWall(3) = -1");
        changesNothing("", "removeWall(0) = -1");
        changesNothing(walls(11, 1), "removeWall(11) = -1");
    }

    static void promise3_aRemovedWallIsGone() {
        holds(ONE, "removeWall(0) = 0; removeWall(0) = -1; wallCount() = 0; pieceCount() = 0");
    }

    static void promise3_theOtherNumbersDoNotChange() {
        holds(walls(3, 0), "removeWall(1) = 2; coordinate(0, 0) = 0; coordinate(2, 0) = 2",
                "kind(1) = -1; removeWall(2) = 1; removeWall(0) = 0");
    }

    // ---- 4: moveWall

    static void promise4_numbersAreFrom0To11() {
        refuses(walls(12, 0), "moveWall(%, 1, 1)", 0, 11, -1);
        holds(walls(12, 0), "moveWall(0, 1, 2) = 0; coordinate(0, 0) = 1; coordinate(0, 1) = 2");
        holds(walls(12, 0), "moveWall(11, 1, 2) = 704; coordinate(11, 0) = 12");
    }

    static void promise4_aNumberThatNoWallHasIsRefused() {
        changesNothing(SOME, "moveWall(1, 0, 0) = -1");
        changesNothing("", "moveWall(0, 0, 0) = -1");
    }

    static void promise4_dxIsFromMinus63To63() {
        refuses(ONE, "moveWall(0, %, 0)", -63, 63, -2);
        String left = "addWall(0, 20, 0, 30, 1, 1) = 0";
        refuses(left, "moveWall(0, %, 0)", 0, 63, -2);
        holds(left, "moveWall(0, 63, 0) = 20; coordinate(0, 0) = 63; coordinate(0, 2) = 63",
                "moveWall(0, -63, 0) = 4052; coordinate(0, 0) = 0; coordinate(0, 2) = 0");
    }

    static void promise4_dyIsFromMinus63To63() {
        refuses(ONE, "moveWall(0, 0, %)", -63, 63, -2);
        String low = "addWall(20, 0, 30, 0, 1, 1) = 0";
        refuses(low, "moveWall(0, 0, %)", 0, 63, -2);
        holds(low, "moveWall(0, 0, 63) = 1280; coordinate(0, 1) = 63; coordinate(0, 3) = 63",
                "moveWall(0, 0, -63) = 1343; coordinate(0, 1) = 0; coordinate(0, 3) = 0");
    }

    static void promise4_noCoordinateGetsBelow0OrAbove63() {
        refuses(ONE, "moveWall(0, %, 0)", -10, 33, -2);
        refuses(ONE, "moveWall(0, 0, %)", -20, 23, -2);
        String turned = ONE + "; turnWall(0)";
        refuses(turned, "moveWall(0, %, 0)", -10, 33, -2);
        refuses(turned, "moveWall(0, 0, %)", -20, 23, -2);
        for (int turns = 0; turns < 2; turns++) {
            String wall = turns == 0 ? ONE : turned;
            int x = turns == 0 ? 0 : 2;
            int y = turns == 0 ? 1 : 3;
            holds(wall, "moveWall(0, -10, 0); coordinate(0, " + x + ") = 0");
            holds(wall, "moveWall(0, 33, 0); coordinate(0, " + (2 - x) + ") = 63");
            holds(wall, "moveWall(0, 0, -20); coordinate(0, " + y + ") = 0");
            holds(wall, "moveWall(0, 0, 23); coordinate(0, " + (4 - y) + ") = 63");
        }
    }

    static void promise4_noSuchWallIsReportedBeforeBadValue() {
        changesNothing(SOME, "moveWall(1, 64, 0) = -1");
        changesNothing(SOME, "moveWall(12, 0, -64) = -1");
        changesNothing(SOME, "moveWall(-1, HIGH, LOW) = -1");
        changesNothing(SOME, "moveWall(1, 63, 63) = -1");
    }

    static void promise4_answersTheStartPointBefore() {
        holds("addWall(0, 0, 1, 1, 0, 0); moveWall(0, 62, 62) = 0");
        holds("addWall(0, 63, 1, 62, 0, 0); moveWall(0, 1, -1) = 63");
        holds("addWall(63, 0, 62, 1, 0, 0); moveWall(0, -1, 1) = 4032");
        holds("addWall(63, 63, 62, 62, 0, 0); moveWall(0, -62, -62) = 4095");
    }

    static void promise4_fixedAndMovableWallsAreMovedWhole() {
        for (int movable = 0; movable < 2; movable++) {
            holds("addWall(10, 20, 30, 40, 2, " + movable + "); moveWall(0, 3, -5) = 660",
                    "coordinate(0, 0) = 13; coordinate(0, 1) = 15; coordinate(0, 2) = 33",
                    "coordinate(0, 3) = 35; kind(0) = " + (2 + 10 * movable));
        }
    }

    // ---- 5: turnWall

    static void promise5_numbersAreFrom0To11() {
        refuses(walls(12, 0), "turnWall(%)", 0, 11, -1);
        holds(walls(12, 0), "turnWall(0) = 0; coordinate(0, 1) = 9; coordinate(0, 3) = 0");
        holds(walls(12, 0), "turnWall(11) = 0; coordinate(11, 1) = 9; coordinate(11, 3) = 0");
    }

    static void promise5_aNumberThatNoWallHasIsRefused() {
        changesNothing(SOME, "turnWall(1) = -1");
        changesNothing("", "turnWall(0) = -1");
    }

    static void promise5_answersTheKindAlone() {
        holds(each("addWall(1, 2, 3, 4, %, 0) = %", 0, 2), each("turnWall(%) = %", 0, 2));
        holds(each("addWall(1, 2, 3, 4, %, 1) = %", 0, 2), each("turnWall(%) = %", 0, 2));
    }

    static void promise5_exchangesBothCoordinates() {
        holds(ONE, "turnWall(0) = 1; coordinate(0, 0) = 30; coordinate(0, 1) = 40",
                "coordinate(0, 2) = 10; coordinate(0, 3) = 20; kind(0) = 11");
    }

    // ---- 6: setKind

    static void promise6_numbersAreFrom0To11() {
        refuses(walls(12, 0), "setKind(%, 1)", 0, 11, -1);
        holds(walls(12, 0), "setKind(0, 1) = 0; kind(0) = 1; kind(1) = 0");
        holds(walls(12, 0), "setKind(11, 1) = 0; kind(11) = 1; kind(10) = 0");
    }

    static void promise6_aNumberThatNoWallHasIsRefused() {
        changesNothing(SOME, "setKind(1, 0) = -1");
        changesNothing("", "setKind(0, 0) = -1");
    }

    static void promise6_kindIsFrom0To2() {
        refuses(SOME, "setKind(0, %)", 0, 2, -2);
        holds(ONE, "setKind(0, 0) = 1; kind(0) = 10; setKind(0, 2) = 0; kind(0) = 12");
    }

    static void promise6_noSuchWallIsReportedBeforeBadValue() {
        changesNothing(SOME, "setKind(1, 3) = -1");
        changesNothing(SOME, "setKind(12, -1) = -1");
        changesNothing(SOME, "setKind(-1, HIGH) = -1");
    }

    static void promise6_answersThePreviousKindAlone() {
        holds(ONE, "setKind(0, 2) = 1; setKind(0, 2) = 2; setKind(0, 0) = 2; setKind(0, 1) = 0");
        holds("addWall(1, 2, 3, 4, 0, 0); setKind(0, 1) = 0; kind(0) = 1");
    }

    // ---- 7: setWeights

    static void promise7_splitIsFrom0To9() {
        refuses(SOME, "setWeights(%, 4)", 0, 9, -2);
        holds("setWeights(0, 4) = 51; weights() = 4; setWeights(9, 4) = 4; weights() = 94");
    }

    static void promise7_balanceIsFrom0To9() {
        refuses(SOME, "setWeights(4, %)", 0, 9, -2);
        holds("setWeights(4, 0) = 51; weights() = 40; setWeights(4, 9) = 40; weights() = 49");
    }

    static void promise7_bothWeightsMayBe0Or9() {
        holds("setWeights(0, 0) = 51; setWeights(9, 9) = 0; setWeights(0, 0) = 99; weights() = 0");
    }

    // ---- 8: undo

    static void promise8_withoutEditsItIsNotPossible() {
        changesNothing("", "undo() = -5");
        changesNothing(walls(1, 0) + "undo() = 0", "undo() = -5");
        changesNothing(text("s") + "load() = -9; nodeCount() = 0", "undo() = -5");
    }

    private static String edits(int count) {
        return each("setWeights(%, %)", 0, count - 1);
    }

    static void promise8_oneEditCanBeUndone() {
        holds(edits(1), "undo() = 0; weights() = 51; undo() = -5; weights() = 51");
    }

    static void promise8_sevenEditsCanBeUndone() {
        holds(edits(7), "undo() = 6; undo() = 5; undo() = 4; undo() = 3; undo() = 2; undo() = 1",
                "weights() = 0; undo() = 0; weights() = 51; undo() = -5");
    }

    static void promise8_eightEditsCanBeUndone() {
        holds(edits(8), "undo() = 7; undo() = 6; undo() = 5; undo() = 4; undo() = 3; undo() = 2",
                "undo() = 1; weights() = 0; undo() = 0; weights() = 51; undo() = -5");
    }

    static void promise8_ofNineEditsTheOldestStays() {
        holds(edits(9), "undo() = 7; weights() = 77; undo() = 6; weights() = 66; undo() = 5",
                "weights() = 55; undo() = 4; weights() = 44; undo() = 3; weights() = 33; undo() = 2",
                "weights() = 22; undo() = 1; weights() = 11; undo() = 0; weights() = 0",
                "undo() = -5; weights() = 0");
    }

    static void promise8_ofManyEditsTheLatestEightAreKept() {
        holds(edits(10), edits(10), edits(10), "undo() = 7; weights() = 88; undo() = 6; undo() = 5",
                "undo() = 4; undo() = 3; undo() = 2; undo() = 1; undo() = 0; weights() = 11",
                "undo() = -5");
    }

    static void promise8_anUndoMakesRoomForOneMoreEdit() {
        holds(edits(10), "undo() = 7; undo() = 6; undo() = 5; weights() = 66; setWeights(1, 2) = 66",
                "setWeights(3, 4); setWeights(5, 6); undo() = 7; weights() = 34; undo() = 6",
                "weights() = 12; undo() = 5; weights() = 66; undo() = 4; weights() = 55; undo() = 3",
                "undo() = 2; undo() = 1; undo() = 0; weights() = 11; undo() = -5");
        holds(edits(10), "undo() = 7; undo() = 6; setWeights(1, 2); setWeights(3, 4)",
                "setWeights(5, 6) = 34; undo() = 7; undo() = 6; undo() = 5; weights() = 77; undo() = 4",
                "undo() = 3; undo() = 2; undo() = 1; undo() = 0; weights() = 22; undo() = -5");
    }

    static void promise8_anUndoneEditCannotBeMadeAgain() {
        holds(edits(2), "undo() = 1; undo() = 0; undo() = -5; weights() = 51");
    }

    static void promise8_everyEditIsUndone() {
        isUndone(SOME, "addWall(1, 2, 3, 4, 0, 0) = 1");
        isUndone(SOME, "removeWall(0) = 1");
        isUndone(SOME, "removeWall(2) = 1");
        isUndone(SOME, "moveWall(0, 1, 2) = 651");
        isUndone(SOME, "turnWall(2) = 2");
        isUndone(SOME, "setKind(2, 1) = 2");
        isUndone(SOME, "setWeights(9, 9) = 32");
        String other = "addWall(7, 7, 9, 9, 2, 1);" + text("om1,2,3,4;s5,6,7,8;g9,1,2,3;");
        isUndone(other, "load() = 3");
    }

    static void promise8_anEditThatChangesNothingIsOne() {
        String walls = "addWall(1, 2, 3, 4, 0, 0) = 0;";
        holds(walls, "moveWall(0, 0, 0) = 66; undo() = 1; undo() = 0");
        holds(walls, "setKind(0, 0) = 0; undo() = 1; undo() = 0");
        holds(walls, "setWeights(5, 1) = 51; undo() = 1; undo() = 0");
        holds(walls, text("s1,2,3,4;"), "load() = 1; undo() = 1; undo() = 0");
        holds("load() = 0; undo() = 0; undo() = -5");
        holds(edits(9), each("setWeights(8, 8) = 88", 1, 8), "undo() = 7; weights() = 88",
                "undo() = 6; undo() = 5; undo() = 4; undo() = 3; undo() = 2; undo() = 1",
                "undo() = 0; weights() = 88; undo() = -5");
    }

    static void promise8_turningTwiceIsTwoEdits() {
        holds(ONE, "turnWall(0); turnWall(0); coordinate(0, 0) = 10; undo() = 2",
                "coordinate(0, 0) = 30; undo() = 1; coordinate(0, 0) = 10; undo() = 0");
    }

    static void promise8_aRefusedEditIsNone() {
        for (String refused : new String[] {"addWall(1, 1, 1, 1, 0, 0) = -4",
            "addWall(64, 1, 1, 1, 0, 0) = -2", "removeWall(1) = -1", "moveWall(1, 1, 1) = -1",
            "moveWall(0, 63, 0) = -2", "turnWall(1) = -1", "setKind(1, 1) = -1",
            "setKind(0, 3) = -2", "setWeights(10, 1) = -2"}) {
            holds(SOME, refused, "undo() = 5");
            changesNothing(SOME, refused);
        }
        holds(SOME, "load() = -9; undo() = 5");
        holds(walls(12, 0), "addWall(1, 2, 3, 4, 0, 0) = -3; undo() = 7; wallCount() = 11");
    }

    static void promise8_noOtherCallIsAnEdit() {
        String tree = SOME + "; nodeCount() = 3";
        for (String call : new String[] {"wallCount() = 2", "coordinate(0, 0) = 10", "kind(2) = 12",
            "weights() = 32", "faultPlace() = 3", "faultKind() = 1", "faultItem() = 0",
            "nodeCount() = 3", "nodeWall(0) = 0", "nodeChild(0, 0) = 1", "nodeDepth(1) = 1",
            "pieceCount()", "pieceWall(0) = 0", "pieceNode(0) = 0", "pieceBound(0, 0) = 0",
            "pieceLength(0) = 40.0", "locate(1, 1)", "meanLeafDepth()", "buildCount() = 2",
            "drawCount(1, 1)", "drawPiece(1, 1, 0)", "paintCount(1, 1, 1, 1)",
            "paintedPiece(1, 1, 1, 1, 9)", "blocker(1, 1, 60, 60)", "columnWall(1, 1, 1, 1, 9)",
            "columnDistance(1, 1, 1, 1, 9, 0)", "paneCount(1, 1, 1, 1, 9)",
            "seenColumns(1, 1, 1, 1, 0)", "seenPoints(1, 1)", "lookout(0)", "walk(1, 1, 1, 1)",
            "wander(1, 1, 1, 9)", "nearestWall(1, 1)", "clearance(1, 1, 0)", "piecesWith(9, 9)",
            "bestWeights()", "leastPieces() = 1", "bestRoot() = 0"}) {
            changesNothing(tree, call);
        }
        holds(SOME, "appendText(65) = 4; undo() = 5");
        holds(SOME, "clearText() = 3; undo() = 5");
    }

    static void promise8_theTextStays() {
        holds(ONE, text("s1,2,3,4;"), "load() = 1; undo() = 1; clearText() = 9");
        holds(ONE, text("s1,2"), "undo() = 0; clearText() = 4");
        holds(ONE, text("s1,2,3,4;"), "undo() = 0; load() = 1; coordinate(0, 3) = 4");
        holds(ONE, text("s1"), "clearText() = 2; undo() = 0; clearText() = 0");
    }

    static void promise8_theLatestFaultStays() {
        holds(ONE, text("s1,2"), "load() = -9; undo() = 0; faultPlace() = 4; faultKind() = 1",
                "faultItem() = 0");
    }

    static void promise8_theNumberOfBuildsStays() {
        holds("addWall(10, 20, 30, 20, 0, 0); nodeCount() = 1; buildCount() = 1; undo() = 0",
                "buildCount() = 1; nodeCount() = 0; buildCount() = 2");
        holds("addWall(10, 20, 30, 20, 0, 0); nodeCount() = 1; turnWall(0); undo() = 1",
                "nodeCount() = 1; buildCount() = 1");
    }

    static void promise8_theTreeIsThatOfTheRestoredWalls() {
        holds("addWall(10, 20, 50, 20, 0, 0); addWall(30, 0, 30, 40, 0, 0); pieceCount() = 3",
                "undo() = 1; pieceCount() = 1; undo() = 0; pieceCount() = 0; leastPieces() = 0");
        holds("addWall(10, 20, 50, 20, 0, 0); addWall(30, 0, 30, 40, 0, 1); pieceCount() = 3",
                "undo() = 1; pieceCount() = 1; undo() = 0; pieceCount() = 0");
    }

    // ---- 9: wallCount

    static void promise9_isFrom0To12() {
        holds("wallCount() = 0", walls(1, 0), "wallCount() = 1; removeWall(0) = 0; wallCount() = 0");
        holds(walls(11, 0), "wallCount() = 11; addWall(1, 2, 3, 4, 0, 1) = 11; wallCount() = 12");
        holds(walls(12, 1), "wallCount() = 12; addWall(1, 2, 3, 4, 0, 1) = -3; wallCount() = 12");
    }

    // ---- 10: coordinate

    static void promise10_numbersAreFrom0To11() {
        refuses(walls(12, 0), "coordinate(%, 0)", 0, 11, -1);
        holds(walls(12, 0), "coordinate(0, 0) = 0; coordinate(11, 0) = 11; coordinate(11, 3) = 9");
    }

    static void promise10_aNumberThatNoWallHasIsRefused() {
        changesNothing(SOME, "coordinate(1, 0) = -1");
        changesNothing("", "coordinate(0, 0) = -1");
    }

    static void promise10_whichIsFrom0To3() {
        refuses(SOME, "coordinate(0, %)", 0, 3, -2);
        holds(ONE, "coordinate(0, 0) = 10; coordinate(0, 1) = 20; coordinate(0, 2) = 30",
                "coordinate(0, 3) = 40");
    }

    static void promise10_noSuchWallIsReportedBeforeBadValue() {
        changesNothing(SOME, "coordinate(1, 4) = -1");
        changesNothing(SOME, "coordinate(12, -1) = -1");
        changesNothing(SOME, "coordinate(-1, HIGH) = -1");
    }

    // ---- 11: kind

    static void promise11_numbersAreFrom0To11() {
        refuses(walls(12, 1), "kind(%)", 0, 11, -1);
        holds(walls(12, 1), "kind(0) = 10; kind(11) = 10");
    }

    static void promise11_aNumberThatNoWallHasIsRefused() {
        changesNothing(SOME, "kind(1) = -1");
        changesNothing("", "kind(0) = -1");
    }

    static void promise11_isFrom0To2AndFrom10To12() {
        holds("addWall(1, 2, 3, 4, 0, 0); kind(0) = 0; setKind(0, 1); kind(0) = 1",
                "setKind(0, 2); kind(0) = 2");
        holds("addWall(1, 2, 3, 4, 0, 1); kind(0) = 10; setKind(0, 1); kind(0) = 11",
                "setKind(0, 2); kind(0) = 12");
    }

    // ---- 12: weights

    static void promise12_isFrom0To99() {
        holds("weights() = 51; setWeights(0, 0); weights() = 0; setWeights(0, 9); weights() = 9",
                "setWeights(9, 0); weights() = 90; setWeights(9, 9); weights() = 99");
    }

    public static void main(String[] args) throws Exception {
        runAll(WallEdgesTest.class, 1, 12);
    }
}
