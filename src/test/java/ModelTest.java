import java.lang.reflect.Method;
import java.util.ArrayList;
import java.util.List;

/**
 * Runs of drawn calls on a WallPartition and on the Model: every answer must be the same. Other
 * runs are drawn with a seed and a number of runs as arguments.
 */
public final class ModelTest {
    private static final int CALLS = 200;

    /**
     * The calls with the kind of each argument: c coordinate, k kind, b bit, w wall, m move,
     * q weight, h which of four, t code, n node, p piece, i index, d direction, u column,
     * s state, z steps. The number tells how often the call is drawn.
     */
    private static final String[] CALLS_AND_ARGUMENTS = {
        "14 addWall cccckb", "3 removeWall w", "4 moveWall wmm", "3 turnWall w", "3 setKind wk",
        "2 setWeights qq", "4 undo", "1 wallCount", "2 coordinate wh", "2 kind w", "1 weights",
        "1 appendText t", "1 clearText", "1 load", "1 faultPlace", "1 faultKind", "1 faultItem",
        "2 nodeCount", "3 nodeWall n", "3 nodeChild nb", "3 nodeDepth n", "2 pieceCount",
        "3 pieceWall p", "3 pieceNode p", "5 pieceBound ph", "3 pieceLength p", "3 locate cc",
        "2 meanLeafDepth", "3 buildCount", "2 drawCount cc", "4 drawPiece cci",
        "3 paintCount ccdd", "4 paintedPiece ccddu", "4 blocker cccc", "4 columnWall ccddu",
        "4 columnDistance ccddub", "4 paneCount ccddu", "3 seenColumns ccddw", "1 seenPoints cc",
        "4 walk ccdd", "2 wander ccsz", "4 nearestWall cc", "4 clearance ccb", "3 piecesWith qq",
        "1 bestWeights", "2 leastPieces", "2 bestRoot"
    };

    private static long seed;
    private static int range = 64;
    private static int scale = 1;

    private static int draw(int n) {
        seed = seed * 6364136223846793005L + 1442695040888963407L;
        return (int) ((seed >>> 33) % n);
    }

    private static int argument(char kind) {
        if (draw(60) == 0) {
            int[] odd = {-1, 64, Integer.MIN_VALUE, Integer.MAX_VALUE, -64, 12, 3, -9, 300, 32};
            return odd[draw(odd.length)];
        }
        switch (kind) {
            case 'c': return draw(range) * scale;
            case 'k': return draw(3);
            case 'b': return draw(2);
            case 'w': return draw(draw(2) == 0 ? 4 : 12);
            case 'm': return (draw(11) - 5) * scale;
            case 'q': return draw(10);
            case 'h': return draw(4);
            case 't': return draw(95) + 32;
            case 'n': case 'p': case 'i': return draw(draw(2) == 0 ? 6 : 30);
            case 'd': return draw(2) == 0 ? draw(3) - 1 : draw(17) - 8;
            case 'u': return draw(32);
            case 's': return draw(Integer.MAX_VALUE);
            default: return draw(60) + 1;
        }
    }

    private static final class Pair {
        private final WallPartition real = new WallPartition();
        private final Model model = new Model();
        private final Due due;
        private final List<String> said = new ArrayList<>();

        Pair(Due due) {
            this.due = due;
        }

        long call(String name, int... arguments) throws Exception {
            Class<?>[] types = new Class<?>[arguments.length];
            Object[] values = new Object[arguments.length];
            StringBuilder words = new StringBuilder(name).append('(');
            for (int i = 0; i < arguments.length; i++) {
                types[i] = int.class;
                values[i] = arguments[i];
                words.append(i > 0 ? ", " : "").append(arguments[i]);
            }
            said.add(words.append(")").toString());
            Object got = WallPartition.class.getMethod(name, types).invoke(real, values);
            Object want = Model.class.getMethod(name, types).invoke(model, values);
            if (!got.equals(want)) {
                due.is("after " + said, ((Number) got).doubleValue(), ((Number) want).doubleValue());
                System.exit(1);
            }
            due.is(name, ((Number) got).doubleValue(), ((Number) want).doubleValue());
            return ((Number) got).longValue();
        }
    }

    private static String item() {
        String letter = "" + "sgo".charAt(draw(3)) + (draw(3) == 0 ? "m" : "");
        StringBuilder item = new StringBuilder(letter);
        for (int i = 0; i < 4; i++) {
            int number = draw(40) == 0 ? draw(120) : draw(range) * scale;
            item.append(number < 10 && draw(4) == 0 ? "0" : "").append(number);
            item.append(i < 3 ? ',' : ';');
        }
        if (draw(25) == 0) {
            item.setCharAt(draw(item.length()), "sgom,;0159 x".charAt(draw(12)));
        }
        if (draw(40) == 0) {
            item.deleteCharAt(draw(item.length()));
        }
        return item.toString();
    }

    private static int readText(Pair pair) throws Exception {
        int calls = 4;
        pair.call("clearText");
        int items = draw(4) == 0 ? draw(15) : draw(4);
        for (int i = 0; i < items; i++) {
            for (char c : item().toCharArray()) {
                pair.call("appendText", c);
                calls++;
            }
        }
        pair.call("load");
        pair.call("faultPlace");
        pair.call("faultKind");
        pair.call("faultItem");
        return calls;
    }

    /** Everything that the tree tells, for the trees of all the drawn walls. */
    private static void readTree(Pair pair) throws Exception {
        long pieces = pair.call("pieceCount");
        for (int piece = 0; piece < pieces; piece++) {
            pair.call("pieceWall", piece);
            pair.call("pieceNode", piece);
            pair.call("pieceLength", piece);
            for (int which = 0; which < 4; which++) {
                pair.call("pieceBound", piece, which);
            }
        }
        long nodes = pair.call("nodeCount");
        for (int node = 0; node < nodes; node++) {
            pair.call("nodeWall", node);
            pair.call("nodeDepth", node);
            pair.call("nodeChild", node, 0);
            pair.call("nodeChild", node, 1);
        }
        int x = draw(range) * scale;
        int y = draw(range) * scale;
        long drawn = pair.call("drawCount", x, y);
        for (int index = 0; index <= drawn; index++) {
            pair.call("drawPiece", x, y, index);
        }
    }

    private static void run(int number, Due due) throws Exception {
        int[] ranges = {64, 5, 8, 16, 64, 4};
        int[] scales = {1, 1, 8, 4, 1, 21};
        range = ranges[number % ranges.length];
        scale = scales[number % scales.length];
        Pair pair = new Pair(due);
        List<String[]> bag = new ArrayList<>();
        for (String line : CALLS_AND_ARGUMENTS) {
            String[] words = line.split(" ");
            for (int i = 0; i < Integer.parseInt(words[0]); i++) {
                bag.add(new String[] {words[1], words.length > 2 ? words[2] : ""});
            }
        }
        int walls = draw(13);
        for (int wall = 0; wall < walls; wall++) {
            pair.call("addWall", draw(range) * scale, draw(range) * scale, draw(range) * scale,
                    draw(range) * scale, draw(3), draw(4) == 0 ? 1 : 0);
        }
        for (int i = 0; i < CALLS; i++) {
            if (draw(150) == 0) {
                i += readText(pair);
            }
            String[] line = bag.get(draw(bag.size()));
            int[] arguments = new int[line[1].length()];
            for (int a = 0; a < arguments.length; a++) {
                arguments[a] = argument(line[1].charAt(a));
            }
            pair.call(line[0], arguments);
        }
        if (number % 3 == 0) {
            readTree(pair);
        }
        if (number % 20 == 0) {
            pair.call("lookout", draw(2));
            pair.call("lookout", 0);
        }
    }

    private static void everyMethodIsDrawn(Due due) {
        String all = String.join("\n", CALLS_AND_ARGUMENTS) + "\n1 lookout";
        for (Method method : WallPartition.class.getDeclaredMethods()) {
            if (java.lang.reflect.Modifier.isPublic(method.getModifiers())) {
                due.isTrue(method.getName() + " is drawn", all.contains(" " + method.getName()));
            }
        }
    }

    public static void main(String[] args) throws Exception {
        Due due = new Due();
        seed = args.length > 0 ? Long.parseLong(args[0]) : 20260101;
        int runs = args.length > 1 ? Integer.parseInt(args[1]) : 600;
        everyMethodIsDrawn(due);
        for (int number = 0; number < runs; number++) {
            run(number, due);
        }
        due.close("ModelTest");
    }
}
