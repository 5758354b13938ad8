import java.lang.reflect.InvocationTargetException;
import java.lang.reflect.Method;
import java.util.ArrayList;
import java.util.Arrays;
import java.util.Comparator;
import java.util.HashMap;
import java.util.List;
import java.util.Map;

/**
 * What the tests of single sentences share. Each sentence of the document that names a boundary
 * case has a test of its own: a static method without arguments, named after the promise, as in
 * promise2_x1IsFrom0To63, or after the part of the description, as in tree_theListsKeepTheOrder.
 *
 * Calls are written as in the examples of the document, with semicolons between them:
 * "addWall(0, 0, 9, 0, 2, 0) = 0; turnWall(0) = 2". An answer that is not told is not compared.
 * Instead of the least and the greatest int, LOW and HIGH may be written.
 */
abstract class Edges {
    private static final int MOST_CALLS = 512;
    private static final Due DUE = new Due();
    private static final Map<String, Method> METHODS = new HashMap<>();
    private static String test = "";

    static {
        for (Method method : WallPartition.class.getMethods()) {
            METHODS.put(method.getName(), method);
        }
    }

    /** Two walls with a gap between their numbers, 6 edits, a fault, and a build that is due. */
    static final String SOME = "addWall(10, 10, 50, 10, 0, 0) = 0; addWall(5, 5, 6, 6, 0, 0) = 1;"
            + "addWall(30, 0, 30, 40, 2, 1) = 2; removeWall(1) = 2; setWeights(3, 2) = 51;"
            + text("g1,") + "load() = -9; pieceCount() = 3; moveWall(0, 0, 1) = 650";

    /** A new object, which may be used for as many calls as the document says. */
    static final class Room {
        private final WallPartition walls = new WallPartition();
        private int calls = 0;

        Room(String script) {
            run(script);
        }

        void run(String script) {
            for (String line : script.split(";")) {
                if (!line.isBlank()) {
                    step(line.trim());
                }
            }
        }

        private void step(String line) {
            String[] sides = line.split(" = ");
            Number answer = call(sides[0]);
            if (sides.length == 1) {
                return;
            }
            String due = sides[1].trim();
            String name = test + ": " + sides[0];
            if (answer instanceof Double) {
                DUE.is(name, answer.doubleValue(), Double.parseDouble(due));
            } else {
                DUE.is(name, answer.longValue(), Long.parseLong(due));
            }
        }

        Number call(String call) {
            calls++;
            if (calls > MOST_CALLS) {
                throw new IllegalStateException(test + " makes too many calls");
            }
            int open = call.indexOf('(');
            Method method = METHODS.get(call.substring(0, open));
            String inside = call.substring(open + 1, call.lastIndexOf(')')).trim();
            String[] words = inside.isEmpty() ? new String[0] : inside.split(",");
            Object[] arguments = new Object[words.length];
            for (int i = 0; i < words.length; i++) {
                arguments[i] = number(words[i].trim());
            }
            try {
                return (Number) method.invoke(walls, arguments);
            } catch (InvocationTargetException | IllegalAccessException e) {
                throw new IllegalStateException(test + ": " + call, e);
            }
        }

        private static Integer number(String word) {
            switch (word) {
                case "LOW": return Integer.MIN_VALUE;
                case "HIGH": return Integer.MAX_VALUE;
                default: return Integer.valueOf(word);
            }
        }

        private int see(String call, List<String> seen) {
            Number answer = call(call);
            seen.add(call + " = " + answer);
            return answer.intValue();
        }

        private void seeWalls(List<String> seen) {
            see("wallCount()", seen);
            see("weights()", seen);
            for (int wall = 0; wall < 12; wall++) {
                if (see("kind(" + wall + ")", seen) >= 0) {
                    for (int which = 0; which < 4; which++) {
                        see("coordinate(" + wall + ", " + which + ")", seen);
                    }
                }
            }
        }

        /** The walls, the fault, the number of builds, and the tree. */
        List<String> present() {
            List<String> seen = new ArrayList<>();
            see("buildCount()", seen);
            see("faultPlace()", seen);
            see("faultKind()", seen);
            see("faultItem()", seen);
            seeWalls(seen);
            int pieces = see("pieceCount()", seen);
            for (int piece = 0; piece < pieces; piece++) {
                see("pieceWall(" + piece + ")", seen);
                see("pieceNode(" + piece + ")", seen);
                for (int which = 0; which < 4; which++) {
                    see("pieceBound(" + piece + ", " + which + ")", seen);
                }
            }
            see("buildCount()", seen);
            return seen;
        }

        /** All that undoing brings back, and the text. */
        List<String> past() {
            List<String> seen = new ArrayList<>();
            for (int i = 0; i < 9 && see("undo()", seen) >= 0; i++) {
                seeWalls(seen);
            }
            see("load()", seen);
            seeWalls(seen);
            see("faultPlace()", seen);
            see("clearText()", seen);
            return seen;
        }
    }

    /** The calls that append these characters to the text. */
    static String text(String characters) {
        StringBuilder calls = new StringBuilder();
        for (int i = 0; i < characters.length(); i++) {
            calls.append("appendText(").append((int) characters.charAt(i)).append(");");
        }
        return calls.toString();
    }

    /** The calls that add so many walls, each behind the one before. */
    static String walls(int count, int movable) {
        StringBuilder calls = new StringBuilder();
        for (int i = 0; i < count; i++) {
            calls.append("addWall(" + i + ", 0, " + i + ", 9, 0, " + movable + ") = " + i + ";");
        }
        return calls.toString();
    }

    /** Some calls several times, each with another number for the sign %. */
    static String each(String calls, int from, int to) {
        StringBuilder all = new StringBuilder();
        for (int i = from; i <= to; i++) {
            all.append(calls.replace("%", "" + i)).append(';');
        }
        return all.toString();
    }

    /** These calls, one after the other, on a new object. */
    static void holds(String... calls) {
        new Room(String.join(";", calls));
    }

    /** After the first calls, the last one leaves everything as it was. */
    static void changesNothing(String before, String call) {
        sameAfter(before, before + ";" + call, call);
    }

    /** After the first calls, an edit that is undone leaves everything as it was. */
    static void isUndone(String before, String edit) {
        sameAfter(before, before + ";" + edit + "; undo()", edit + "; undo()");
    }

    private static void sameAfter(String some, String others, String what) {
        same(what, new Room(some).present(), new Room(others).present());
        same(what, new Room(some).past(), new Room(others).past());
    }

    private static void same(String what, List<String> before, List<String> after) {
        String difference = "";
        for (int i = 0; i < before.size() && i < after.size() && difference.isEmpty(); i++) {
            if (!before.get(i).equals(after.get(i))) {
                difference = before.get(i) + ", then " + after.get(i);
            }
        }
        DUE.isTrue(test + ": " + what + " changes nothing " + difference, before.equals(after));
    }

    /**
     * With the numbers below and above a range (for the sign %), and with the least and the
     * greatest int, a call answers an error and leaves everything as it was.
     */
    static void refuses(String before, String call, int low, int high, int error) {
        for (int value : new int[] {low - 1, high + 1, Integer.MIN_VALUE, Integer.MAX_VALUE}) {
            if (value < low || value > high) {
                changesNothing(before, call.replace("%", "" + value) + " = " + error);
            }
        }
    }

    /** The point (X, Y) of a call has coordinates from 0 to 63, whether there are walls or not. */
    static void refusesBadPoints(String call) {
        for (String before : new String[] {SOME, ""}) {
            refuses(before, call.replace("X", "%").replace("Y", "9"), 0, 63, -2);
            refuses(before, call.replace("X", "9").replace("Y", "%"), 0, 63, -2);
        }
    }

    /** The direction (DX, DY) of a call has parts from -8 to 8, whether there are walls or not. */
    static void refusesBadDirections(String call) {
        for (String before : new String[] {SOME, ""}) {
            for (String other : new String[] {"1", "0"}) {
                refuses(before, call.replace("DX", "%").replace("DY", other), -8, 8, -2);
                refuses(before, call.replace("DX", other).replace("DY", "%"), -8, 8, -2);
            }
        }
    }

    /** A direction with a part at the end of its range, or with a part 0, is one. */
    static void takesDirections(String before, String call, int answer) {
        int[] parts = {-8, -1, 0, 1, 8};
        for (int dx : parts) {
            for (int dy : parts) {
                if (dx != 0 || dy != 0) {
                    holds(before, call.replace("DX", "" + dx).replace("DY", "" + dy) + " = " + answer);
                }
            }
        }
    }

    /** The four corners of the room are points (X, Y), for which a call answers this. */
    static void takesCorners(String before, String call, int answer) {
        for (int corner = 0; corner < 4; corner++) {
            String x = corner % 2 == 0 ? "0" : "63";
            String y = corner / 2 == 0 ? "0" : "63";
            holds(before, call.replace("X", x).replace("Y", y) + " = " + answer);
        }
    }

    static void is(String what, double got, double want) {
        DUE.is(test + ": " + what, got, want);
    }

    static void isTrue(String what, boolean holds) {
        DUE.isTrue(test + ": " + what, holds);
    }

    /** Runs the tests of a class; each of these promises must have one. */
    static void runAll(Class<?> tests, int from, int to) throws Exception {
        String[] promises = new String[to - from + 1];
        for (int i = 0; i < promises.length; i++) {
            promises[i] = "promise" + (from + i);
        }
        runAll(tests, promises);
    }

    /** Runs the tests of a class, named <group>_<sentence>; each of these groups must have one. */
    static void runAll(Class<?> tests, String... groups) throws Exception {
        List<String> missing = new ArrayList<>(Arrays.asList(groups));
        Method[] methods = tests.getDeclaredMethods();
        Arrays.sort(methods, Comparator.comparing(Method::getName));
        for (Method method : methods) {
            test = method.getName();
            if (method.isSynthetic() || test.indexOf('_') < 0) {
                continue;
            }
            String group = test.substring(0, test.indexOf('_'));
            DUE.isTrue(test + " is of " + tests, Arrays.asList(groups).contains(group));
            int before = DUE.asked();
            method.setAccessible(true);
            method.invoke(null);
            DUE.isTrue(test + " asks something", DUE.asked() > before);
            missing.remove(group);
        }
        DUE.isTrue("there are tests of " + missing, missing.isEmpty());
        DUE.close(tests.getName());
    }
}
