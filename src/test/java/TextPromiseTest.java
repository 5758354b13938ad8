/** Promises 13 to 18: the text, what is read from it, and its faults. */
public final class TextPromiseTest extends Promises {
    private static void promise13() {
        fresh();
        is("13: 31", x.appendText(31), -2);
        is("13: 127", x.appendText(127), -2);
        is("13: -1", x.appendText(-1), -2);
        is("13: lowest", x.appendText(LOW), -2);
        is("13: 32", x.appendText(32), 1);
        is("13: 126", x.appendText(126), 2);
        for (int i = 3; i <= 300; i++) {
            is("13: the new length", x.appendText('s'), i);
        }
        is("13: full", x.appendText('s'), -3);
        is("13: bad value before no room", x.appendText(31), -2);
        is("13: still 300", x.clearText(), 300);
        is("13: room again", x.appendText('s'), 1);
        is("13: no edit", x.undo(), -5);
    }

    private static void promise14() {
        fresh();
        is("14: empty", x.clearText(), 0);
        text("abc");
        is("14: three", x.clearText(), 3);
        is("14: empty", x.clearText(), 0);
        is("14: an empty text has no fault", x.load(), 0);
        is("14: clearing was no edit, loading was", x.undo(), 0);
    }

    private static void promise15() {
        fresh();
        x.setWeights(7, 3);
        x.addWall(1, 1, 2, 2, 0, 0);
        x.addWall(1, 1, 2, 2, 0, 0);
        text("sm63,0,0,63;g9,08,07,6;om00,1,2,3;s0,0,0,1;");
        is("15: four walls", x.load(), 4);
        wall(0, 63, 0, 0, 63, 10);
        wall(1, 9, 8, 7, 6, 1);
        wall(2, 0, 1, 2, 3, 12);
        wall(3, 0, 0, 0, 1, 0);
        is("15: the weights stay", x.weights(), 73);
        is("15: no fault", x.faultKind(), -8);
        x.removeWall(2);
        is("15: the text stays", x.load(), 4);
        text("s1,1,2,2;x");
        is("15: a fault", x.load(), -9);
        is("15: the walls stay", x.wallCount(), 4);
        is("15: no edit", x.undo(), 5);
        is("15: three walls", x.wallCount(), 3);
        is("15: the text stays", x.clearText(), 10);
        is("15: no items", x.load(), 0);
        is("15: no walls", x.wallCount(), 0);
        StringBuilder twelve = new StringBuilder();
        for (int i = 0; i < 12; i++) {
            twelve.append("gm").append(i).append(",1,1,2;");
        }
        text(twelve.toString());
        is("15: twelve items", x.load(), 12);
        wall(11, 11, 1, 1, 2, 11);
        text("o62,63,63,62;");
        is("15: fewer than before", x.load(), 1);
        wall(0, 62, 63, 63, 62, 2);
        is("15: the others are gone", x.kind(1), -1);
    }

    private static void promise16() {
        fresh();
        is("16: no load yet", x.faultPlace(), -8);
        text("s1,2,3,4;");
        x.load();
        is("16: no fault yet", x.faultPlace(), -8);
        String[] texts = {" ", "x", "m", "s", "sm", "smm1,2,3,4;", "s,", "s1", "s12", "s1;",
            "s1,,", "s1,2,3,4", "s1,2,3,4,", "s1,2,3;", "s1.2,3,4;", "s123,1,1,2;", "s1,2,3,4;;",
            "s 1,2,3,4;", "S1,2,3,4;", "1,2,3,4;", "s-1,2,3,4;", "s1,2,3,04", "s1,2,3,012;"};
        int[] places = {0, 0, 0, 1, 2, 2, 1, 2, 3, 2, 3, 8, 8, 6, 2, 3, 9, 1, 0, 0, 1, 9, 9};
        for (int i = 0; i < texts.length; i++) {
            fault(texts[i], places[i], 1, texts[i].startsWith("s1,2,3,4;;") ? 1 : 0);
        }
        text("s1,2,3,4;");
        is("16: no fault now", x.load(), 1);
        is("16: the latest fault stays", x.faultPlace(), 9);
        x.undo();
        x.clearText();
        is("16: it stays still", x.faultPlace(), 9);
    }

    private static void promise17() {
        fresh();
        is("17: no load yet", x.faultKind(), -8);
        fault("s64,1,1,2;", 1, 2, 0);
        fault("s99", 1, 2, 0);
        fault("s64x", 1, 2, 0);
        fault("s640,1,1,2;", 1, 2, 0);
        fault("gm1,70,1,2;", 4, 2, 0);
        fault("s1,2,99,2;", 5, 2, 0);
        fault("s1,2,3,64", 7, 2, 0);
        fault("s1,2,1,2;", 8, 3, 0);
        fault("sm01,2,1,02;", 11, 3, 0);
        fault("s1,2,1,2", 8, 1, 0);
        fault("s1,2,1,2,", 8, 1, 0);
        fault("s64,1,1,2;x", 1, 2, 0);
        fault("s1,1,1,1;x", 8, 3, 0);
        text("s63,63,63,62;");
        is("17: 63 is not above 63, and one same coordinate is not two", x.load(), 1);
        is("17: the latest fault stays", x.faultKind(), 3);
        text("s62,63,63,63;");
        is("17: the other coordinate", x.load(), 1);
        StringBuilder twelve = new StringBuilder();
        for (int i = 0; i < 12; i++) {
            twelve.append("s").append(i).append(",1,0,2;");
        }
        int end = twelve.length();
        for (String letter : new String[] {"s", "g", "o"}) {
            fault(twelve + letter, end, 4, 12);
            fault(twelve + letter + "1,1,1,1;", end, 4, 12);
        }
        fault(twelve + "m", end, 1, 12);
        fault(twelve + "x", end, 1, 12);
    }

    private static void promise18() {
        fresh();
        is("18: no load yet", x.faultItem(), -8);
        fault("s1,2,3,4;g", 10, 1, 1);
        fault("s1,2,3,4;g1,2,3,4;o1,2,3,77;", 25, 2, 2);
        fault("s1,2,3,4;om5,6,5,6;", 18, 3, 1);
        fault("s1,2,3,4;,", 9, 1, 1);
        text("s1,2,3,4;");
        x.load();
        is("18: the latest fault stays", x.faultItem(), 1);
    }

    public static void main(String[] args) {
        promise13();
        promise14();
        promise15();
        promise16();
        promise17();
        promise18();
        due.close("TextPromiseTest");
    }
}
