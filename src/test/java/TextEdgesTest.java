/** The boundary cases of promises 13 to 18: the text, what is read from it, and its faults. */
public final class TextEdgesTest extends Edges {
    private static final String ITEM = "s0,1,2,3;";

    /** Each place of this item has the characters that may stand there in ALLOWED. */
    private static final String LONG_ITEM = "gm12,3,45,5;";
    private static final String DIGITS = "0123456789";
    private static final String[] ALLOWED = {"sgo", "m" + DIGITS, DIGITS, DIGITS + ",", ",", DIGITS,
        DIGITS + ",", DIGITS, DIGITS + ",", ",", DIGITS, DIGITS + ";"};

    private static String items(int count) {
        return ITEM.repeat(count);
    }

    /** The text has a fault of this kind, at this place, in this item. */
    private static void hasFault(String text, int kind, int place, int item) {
        holds(text(text), "load() = -9; faultKind() = " + kind + "; faultPlace() = " + place
                + "; faultItem() = " + item);
    }

    private static void hasNoFault(String text, int walls) {
        holds(text(text), "load() = " + walls + "; wallCount() = " + walls + "; faultKind() = -8");
    }

    // ---- 13: appendText

    static void promise13_codesAreFrom32To126() {
        refuses(SOME, "appendText(%)", 32, 126, -2);
        holds("appendText(32) = 1; appendText(126) = 2; appendText(33) = 3; appendText(125) = 4");
    }

    static void promise13_thereIsRoomFor300Characters() {
        holds(each("appendText(115) = %", 1, 299), "appendText(115) = 300; appendText(115) = -3",
                "clearText() = 300");
        changesNothing(each("appendText(115) = %", 1, 300), "appendText(115) = -3");
        changesNothing(each("appendText(115) = %", 1, 300), "appendText(32) = -3");
    }

    static void promise13_badValueIsReportedBeforeNoRoom() {
        String full = each("appendText(115) = %", 1, 300);
        refuses(full, "appendText(%)", 32, 126, -2);
    }

    static void promise13_anEmptiedTextHasRoomAgain() {
        holds(each("appendText(115) = %", 1, 300), "clearText() = 300",
                each("appendText(115) = %", 1, 150), "clearText() = 150; appendText(115) = 1");
    }

    static void promise13_theNewOneStandsBehindTheOthers() {
        holds(text("s1,2,3,"), "appendText(52) = 8; appendText(59) = 9; load() = 1",
                "coordinate(0, 2) = 3; coordinate(0, 3) = 4");
        holds(text("x"), "clearText() = 1", text(ITEM), "load() = 1; coordinate(0, 3) = 3");
    }

    // ---- 14: clearText

    static void promise14_anEmptyTextHadNoLength() {
        changesNothing("", "clearText() = 0");
        holds(text("x"), "clearText() = 1; clearText() = 0");
    }

    static void promise14_theTextIsEmptyThen() {
        holds(text("x"), "clearText() = 1; load() = 0; appendText(115) = 1");
    }

    // ---- 15: load

    static void promise15_theTextIsPerhapsEmpty() {
        holds("load() = 0; wallCount() = 0; faultKind() = -8; undo() = 0");
        holds("addWall(1, 2, 3, 4, 0, 0); load() = 0; wallCount() = 0; undo() = 1; wallCount() = 1");
    }

    static void promise15_thereAreAtMost12Items() {
        hasNoFault(items(1), 1);
        hasNoFault(items(11), 11);
        hasNoFault(items(12), 12);
        changesNothing(walls(2, 0) + text(items(13)) + "load() = -9", "load() = -9");
        holds(text(items(13)), "load() = -9; wallCount() = 0; faultKind() = 4");
    }

    static void promise15_theLongestItemsCanBeRead() {
        StringBuilder text = new StringBuilder();
        for (int i = 0; i < 12; i++) {
            text.append("om63,62,").append(10 + i).append(",63;");
        }
        holds(text(text.toString()), "load() = 12; clearText() = 168",
                each("kind(%) = 12", 0, 11), "coordinate(11, 0) = 63; coordinate(11, 1) = 62",
                "coordinate(11, 2) = 21; coordinate(11, 3) = 63");
    }

    static void promise15_theLettersAreForTheKinds() {
        holds(text("s0,1,2,3;g0,1,2,3;o0,1,2,3;sm0,1,2,3;gm0,1,2,3;om0,1,2,3;"), "load() = 6",
                "kind(0) = 0; kind(1) = 1; kind(2) = 2; kind(3) = 10; kind(4) = 11; kind(5) = 12");
    }

    static void promise15_aNumberHasOneOrTwoDigits() {
        holds(text("s0,00,09,9;"), "load() = 1; coordinate(0, 0) = 0; coordinate(0, 1) = 0",
                "coordinate(0, 2) = 9; coordinate(0, 3) = 9");
        holds(text("s10,1,01,63;"), "load() = 1; coordinate(0, 0) = 10; coordinate(0, 1) = 1",
                "coordinate(0, 2) = 1; coordinate(0, 3) = 63");
        hasFault("s,1,2,3;", 1, 1, 0);
        hasFault("s000,1,2,3;", 1, 3, 0);
        hasFault("s0,001,2,3;", 1, 5, 0);
        hasFault("s0,1,02,;", 1, 8, 0);
        hasFault("s0,1,2,003;", 1, 9, 0);
    }

    static void promise15_allWallsAreReplaced() {
        holds(walls(12, 1), text("g9,8,7,6;"), "load() = 1; kind(0) = 1; coordinate(0, 0) = 9",
                each("kind(%) = -1", 1, 11), "pieceCount() = 1; undo() = 7; wallCount() = 12");
    }

    static void promise15_theNumbersAre0And1AndSoOn() {
        holds(SOME, "clearText() = 3", text("s0,1,2,3;s1,1,2,3;s2,1,2,4;"), "load() = 3",
                each("coordinate(%, 0) = %", 0, 2), "kind(3) = -1");
    }

    static void promise15_theWeightsStay() {
        holds("setWeights(0, 9)", text(ITEM), "load() = 1; weights() = 9; undo() = 1; weights() = 9");
    }

    static void promise15_theTextStaysInAnyCase() {
        holds(text(ITEM), "load() = 1; load() = 1; clearText() = 9");
        holds(text("s0,1"), "load() = -9; load() = -9; clearText() = 4");
    }

    static void promise15_aTextWithAFaultLeavesTheWalls() {
        for (String text : new String[] {"x", "s", "s0,1,2,3", "s0,1,2,3;s64", "s0,1,0,1;",
            "s9,9,1,1;o"}) {
            String before = SOME + "; clearText() = 3;" + text(text) + "load() = -9";
            changesNothing(before, "load() = -9");
            holds(before, "wallCount() = 2; kind(0) = 0; kind(1) = -1; kind(2) = 12; weights() = 32",
                    "coordinate(0, 0) = 10; coordinate(0, 1) = 11; undo() = 5; buildCount() = 1");
        }
    }

    static void promise15_aRefusedTextIsNoEditEvenIfEightAreKept() {
        holds(each("setWeights(%, %)", 0, 8), text("x"), "load() = -9; undo() = 7; weights() = 77");
    }

    // ---- 16 to 18: the fault

    static void promise16_thereIsNoFaultBeforeALoadFindsOne() {
        holds("faultPlace() = -8; load() = 0; faultPlace() = -8", text("x"), "faultPlace() = -8",
                "clearText() = 1; load() = 0; faultPlace() = -8", text(ITEM), "load() = 1",
                "faultPlace() = -8; undo() = 2; faultPlace() = -8");
    }

    static void promise17_thereIsNoFaultBeforeALoadFindsOne() {
        holds("faultKind() = -8; load() = 0; faultKind() = -8", text("x"), "faultKind() = -8",
                "clearText() = 1; load() = 0; faultKind() = -8", text(ITEM), "load() = 1",
                "faultKind() = -8; undo() = 2; faultKind() = -8");
    }

    static void promise18_thereIsNoFaultBeforeALoadFindsOne() {
        holds("faultItem() = -8; load() = 0; faultItem() = -8", text("x"), "faultItem() = -8",
                "clearText() = 1; load() = 0; faultItem() = -8", text(ITEM), "load() = 1",
                "faultItem() = -8; undo() = 2; faultItem() = -8");
    }

    /** A fault in item 1, then calls after which it must still be the latest. */
    private static void faultStays(String call, String after) {
        String start = text(ITEM + "g0,64,") + "load() = -9;" + call;
        holds(start, "clearText() = 15; " + call, text(ITEM), call, "load() = 1; " + call);
        holds(start, after, call);
    }

    static void promise16_theLatestFaultStays() {
        for (String after : new String[] {"undo() = -5", "clearText() = 15; load() = 0",
            "nodeCount() = 0", "addWall(1, 2, 3, 4, 0, 0) = 0; undo() = 0", "appendText(49) = 16"}) {
            faultStays("faultPlace() = 12", after);
        }
    }

    static void promise17_theLatestFaultStays() {
        for (String after : new String[] {"undo() = -5", "clearText() = 15; load() = 0",
            "nodeCount() = 0", "addWall(1, 2, 3, 4, 0, 0) = 0; undo() = 0", "appendText(49) = 16"}) {
            faultStays("faultKind() = 2", after);
        }
    }

    static void promise18_theLatestFaultStays() {
        for (String after : new String[] {"undo() = -5", "clearText() = 15; load() = 0",
            "nodeCount() = 0", "addWall(1, 2, 3, 4, 0, 0) = 0; undo() = 0", "appendText(49) = 16"}) {
            faultStays("faultItem() = 1", after);
        }
    }

    static void promise16_aNewFaultTakesThePlaceOfTheOldOne() {
        holds(text(ITEM + "s5,5,5,5;"), "load() = -9; faultPlace() = 17; faultKind() = 3",
                "faultItem() = 1; clearText() = 18", text("s"), "load() = -9; faultPlace() = 1",
                "faultKind() = 1; faultItem() = 0");
    }

    static void promise16_placesAreCountedFrom0() {
        hasFault("x", 1, 0, 0);
        hasFault(items(12) + "x", 1, 108, 12);
        hasFault(items(12) + "s", 4, 108, 12);
        hasFault(LONG_ITEM.replace("5;", "55;").repeat(12) + "o", 4, 156, 12);
        hasFault("gm63,63,63,62;".repeat(12) + "g", 4, 168, 12);
        hasFault("gm63,63,63,62;".repeat(11) + "gm63,63,63,63;", 3, 167, 11);
        hasFault("gm63,63,63,62;".repeat(12) + "x".repeat(132), 1, 168, 12);
    }

    static void promise17_onlySomeCharactersCanStandAtAPlace() {
        for (int place = 0; place < LONG_ITEM.length(); place++) {
            String start = LONG_ITEM.substring(0, place);
            String rest = LONG_ITEM.substring(place + 1);
            for (char code = 32; code <= 126; code++) {
                if (ALLOWED[place].indexOf(code) < 0) {
                    hasFault(start + code + rest, 1, place, 0);
                    hasFault(ITEM + start + code, 1, 9 + place, 1);
                } else if (code == ';') {
                    hasNoFault(start + code, 1);
                } else {
                    hasFault(start + code, 1, place + 1, 0);
                }
            }
        }
    }

    static void promise17_theTextMayNotEndWithinAnItem() {
        for (String item : new String[] {LONG_ITEM, ITEM, "o63,63,63,62;"}) {
            for (int length = 1; length < item.length(); length++) {
                hasFault(item.substring(0, length), 1, length, 0);
                hasFault(item + item.substring(0, length), 1, item.length() + length, 1);
            }
            hasNoFault(item, 1);
            hasNoFault(item + item, 2);
        }
    }

    static void promise17_thereAreNoBlanks() {
        for (int place = 0; place <= ITEM.length(); place++) {
            hasFault(ITEM.substring(0, place) + " " + ITEM.substring(place), 1, place,
                    place / ITEM.length());
        }
    }

    static void promise17_aNumberIsAtMost63() {
        for (int which = 0; which < 4; which++) {
            String start = "s" + "5,".repeat(which);
            String end = ",6".repeat(3 - which) + ";";
            hasNoFault(start + "62" + end, 1);
            hasNoFault(start + "63" + end, 1);
            hasFault(start + "64" + end, 2, start.length(), 0);
            hasFault(start + "65" + end, 2, start.length(), 0);
            hasFault(start + "70" + end, 2, start.length(), 0);
            hasFault(start + "99" + end, 2, start.length(), 0);
            hasFault(ITEM + start + "64" + end, 2, 9 + start.length(), 1);
        }
    }

    static void promise17_aNumberAbove63IsFoundBeforeWhatIsBehindIt() {
        hasFault("s64", 2, 1, 0);
        hasFault("s64x", 2, 1, 0);
        hasFault("s640,1,2,3;", 2, 1, 0);
        hasFault("s64,1,64,1;", 2, 1, 0);
        hasFault("s1,64,x", 2, 3, 0);
        hasFault("s6", 1, 2, 0);
        hasFault("s6x4", 1, 2, 0);
        hasFault("s1,2,1,64", 2, 7, 0);
    }

    static void promise17_startAndEndAreDifferent() {
        hasFault("s5,5,5,5;", 3, 8, 0);
        hasFault("gm05,5,5,05;", 3, 11, 0);
        hasFault("o0,63,00,63;", 3, 11, 0);
        hasFault(ITEM + "s5,5,5,5;", 3, 17, 1);
        hasNoFault("s5,5,5,6;", 1);
        hasNoFault("s5,5,5,4;", 1);
        hasNoFault("s5,5,6,5;", 1);
        hasNoFault("s5,5,4,5;", 1);
        hasNoFault("s5,6,6,5;", 1);
    }

    static void promise17_equalPointsAreFoundAtTheSemicolon() {
        hasFault("s5,5,5,5", 1, 8, 0);
        hasFault("s5,5,5,5,", 1, 8, 0);
        hasFault("s5,5,5,5x", 1, 8, 0);
        hasFault("s5,5,5,5;x", 3, 8, 0);
        hasFault("s5,5,5,5;s64", 3, 8, 0);
    }

    static void promise17_aThirteenthItemIsAFault() {
        for (String letter : new String[] {"s", "g", "o"}) {
            hasFault(items(12) + letter, 4, 108, 12);
            hasFault(items(12) + letter + "x", 4, 108, 12);
            hasFault(items(12) + letter + "0,1,2,3;", 4, 108, 12);
            hasFault(items(12) + letter + "64,1,2,3;", 4, 108, 12);
            hasFault(items(12) + letter + "1,1,1,1;", 4, 108, 12);
            hasFault(items(11) + letter, 1, 100, 11);
        }
    }

    static void promise17_aWrongCharacterBehindTheTwelfthItemIsOfKind1() {
        for (char code = 32; code <= 126; code++) {
            boolean isLetter = "sgo".indexOf(code) >= 0;
            hasFault(items(12) + code, isLetter ? 4 : 1, 108, 12);
        }
    }

    static void promise17_theTwelfthItemHasTheFaultsOfTheOthers() {
        hasFault(items(11) + "x", 1, 99, 11);
        hasFault(items(11) + "s64,1,2,3;", 2, 100, 11);
        hasFault(items(11) + "s1,1,1,1;", 3, 107, 11);
        hasFault(items(11) + "s1,1,1,2", 1, 107, 11);
    }

    static void promise17_theFirstFaultCounts() {
        hasFault("s5,5,5,5;x", 3, 8, 0);
        hasFault("x" + items(13), 1, 0, 0);
        hasFault("s64" + items(13), 2, 1, 0);
        hasFault(items(3) + "s1,1,1,1;" + items(10), 3, 35, 3);
        hasFault(items(11) + "s1,1,1,1;s", 3, 107, 11);
        hasFault("s0,1,2,3;x64", 1, 9, 1);
    }

    static void promise18_itemsAreCountedFrom0() {
        for (int item = 0; item <= 12; item++) {
            hasFault(items(item) + "?", 1, 9 * item, item);
        }
        hasFault(items(5) + "s1,1,1,1;", 3, 53, 5);
        hasFault(items(5) + "s1,1,1,64;", 2, 52, 5);
    }

    public static void main(String[] args) throws Exception {
        runAll(TextEdgesTest.class, 13, 18);
    }
}
