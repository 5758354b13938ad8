import java.lang.reflect.Field;
import java.lang.reflect.Method;
import java.lang.reflect.Modifier;
import java.nio.file.Files;
import java.nio.file.Path;
import java.util.ArrayList;
import java.util.Arrays;
import java.util.Collections;
import java.util.List;

/** The public face to the letter, and what LANGUAGE.md says of the members of the class. */
public final class FaceTest {
    private static final String[] CONSTANTS = {
        "NO_SUCH_WALL = -1", "BAD_VALUE = -2", "NO_ROOM = -3", "ZERO_LENGTH = -4",
        "NOT_POSSIBLE = -5", "NO_SUCH_PIECE = -6", "NO_SUCH_NODE = -7", "NONE = -8",
        "TEXT_FAULT = -9"
    };

    /** Each method as its result, its name, and how many ints it takes. */
    private static final String[] METHODS = {
        "int addWall 6", "int removeWall 1", "int moveWall 3", "int turnWall 1", "int setKind 2",
        "int setWeights 2", "int undo 0", "int wallCount 0", "int coordinate 2", "int kind 1",
        "int weights 0", "int appendText 1", "int clearText 0", "int load 0", "int faultPlace 0",
        "int faultKind 0", "int faultItem 0", "int nodeCount 0", "int nodeWall 1",
        "int nodeChild 2", "int nodeDepth 1", "int pieceCount 0", "int pieceWall 1",
        "int pieceNode 1", "int pieceBound 2", "double pieceLength 1", "int locate 2",
        "double meanLeafDepth 0", "int buildCount 0", "int drawCount 2", "int drawPiece 3",
        "int paintCount 4", "int paintedPiece 5", "int blocker 4", "int columnWall 5",
        "int columnDistance 6", "int paneCount 5", "int seenColumns 5", "int seenPoints 2",
        "int lookout 1", "int walk 4", "int wander 4", "int nearestWall 2", "long clearance 3",
        "int piecesWith 2", "int bestWeights 0", "int leastPieces 0", "int bestRoot 0"
    };

    /** The lines of the public face, with the names of the parameters. */
    private static final String[] LINES = {
        "public static final int NO_SUCH_WALL = -1;",
        "public static final int BAD_VALUE = -2;",
        "public static final int NO_ROOM = -3;",
        "public static final int ZERO_LENGTH = -4;",
        "public static final int NOT_POSSIBLE = -5;",
        "public static final int NO_SUCH_PIECE = -6;",
        "public static final int NO_SUCH_NODE = -7;",
        "public static final int NONE = -8;",
        "public static final int TEXT_FAULT = -9;",
        "public WallPartition() {",
        "public int addWall(int x1, int y1, int x2, int y2, int kind, int movable) {",
        "public int removeWall(int wall) {",
        "public int moveWall(int wall, int dx, int dy) {",
        "public int turnWall(int wall) {",
        "public int setKind(int wall, int kind) {",
        "public int setWeights(int split, int balance) {",
        "public int undo() {",
        "public int wallCount() {",
        "public int coordinate(int wall, int which) {",
        "public int kind(int wall) {",
        "public int weights() {",
        "public int appendText(int code) {",
        "public int clearText() {",
        "public int load() {",
        "public int faultPlace() {",
        "public int faultKind() {",
        "public int faultItem() {",
        "public int nodeCount() {",
        "public int nodeWall(int node) {",
        "public int nodeChild(int node, int side) {",
        "public int nodeDepth(int node) {",
        "public int pieceCount() {",
        "public int pieceWall(int piece) {",
        "public int pieceNode(int piece) {",
        "public int pieceBound(int piece, int which) {",
        "public double pieceLength(int piece) {",
        "public int locate(int x, int y) {",
        "public double meanLeafDepth() {",
        "public int buildCount() {",
        "public int drawCount(int x, int y) {",
        "public int drawPiece(int x, int y, int index) {",
        "public int paintCount(int x, int y, int dx, int dy) {",
        "public int paintedPiece(int x, int y, int dx, int dy, int column) {",
        "public int blocker(int x1, int y1, int x2, int y2) {",
        "public int columnWall(int x, int y, int dx, int dy, int column) {",
        "public int columnDistance(int x, int y, int dx, int dy, int column, int part) {",
        "public int paneCount(int x, int y, int dx, int dy, int column) {",
        "public int seenColumns(int x, int y, int dx, int dy, int wall) {",
        "public int seenPoints(int x, int y) {",
        "public int lookout(int which) {",
        "public int walk(int x, int y, int dx, int dy) {",
        "public int wander(int x, int y, int state, int steps) {",
        "public int nearestWall(int x, int y) {",
        "public long clearance(int x, int y, int part) {",
        "public int piecesWith(int split, int balance) {",
        "public int bestWeights() {",
        "public int leastPieces() {",
        "public int bestRoot() {"
    };

    private static final Due due = new Due();

    private static void methods() {
        List<String> found = new ArrayList<>();
        List<String> hidden = new ArrayList<>();
        for (Method method : WallPartition.class.getDeclaredMethods()) {
            int modifiers = method.getModifiers();
            if (Modifier.isPrivate(modifiers)) {
                hidden.add(method.getName());
                continue;
            }
            due.isTrue(method + " is public and of the object",
                    Modifier.isPublic(modifiers) && !Modifier.isStatic(modifiers));
            for (Class<?> type : method.getParameterTypes()) {
                due.isTrue(method + " takes ints", type == int.class);
            }
            due.is(method + " declares no exception", method.getExceptionTypes().length, 0);
            found.add(method.getReturnType() + " " + method.getName() + " "
                    + method.getParameterCount());
        }
        for (Class<?> inside : WallPartition.class.getDeclaredClasses()) {
            int modifiers = inside.getModifiers();
            due.isTrue(inside + " is static and not public", Modifier.isStatic(modifiers)
                    && !Modifier.isPublic(modifiers) && !Modifier.isProtected(modifiers));
            for (Method method : inside.getDeclaredMethods()) {
                hidden.add(method.getName());
            }
        }
        List<String> want = new ArrayList<>(Arrays.asList(METHODS));
        Collections.sort(found);
        Collections.sort(want);
        due.isTrue("the methods are " + want + ", found " + found, found.equals(want));
        for (String name : hidden) {
            for (String method : METHODS) {
                due.isTrue("no other method is called " + name, !method.contains(" " + name + " "));
            }
        }
    }

    private static void constants() throws Exception {
        List<String> found = new ArrayList<>();
        for (Field field : WallPartition.class.getDeclaredFields()) {
            if (Modifier.isPrivate(field.getModifiers())) {
                continue;
            }
            due.is(field + " is public static final", field.getModifiers(),
                    Modifier.PUBLIC | Modifier.STATIC | Modifier.FINAL);
            due.isTrue(field + " is an int", field.getType() == int.class);
            found.add(field.getName() + " = " + field.getInt(null));
        }
        due.isTrue("the constants are as due: " + found, found.equals(Arrays.asList(CONSTANTS)));
    }

    private static void typeAndConstructor() {
        due.is("the class is public and final", WallPartition.class.getModifiers(),
                Modifier.PUBLIC | Modifier.FINAL);
        due.is("it has one constructor", WallPartition.class.getDeclaredConstructors().length, 1);
        due.is("a public one without arguments", WallPartition.class.getConstructors()[0]
                .getParameterCount(), 0);
        due.isTrue("it extends nothing", WallPartition.class.getSuperclass() == Object.class);
        due.is("it implements nothing", WallPartition.class.getInterfaces().length, 0);
    }

    private static void lines() throws Exception {
        List<String> found = Files.readAllLines(Path.of("src/main/java/WallPartition.java"));
        for (String line : LINES) {
            due.isTrue("the program has the line: " + line, found.contains("    " + line));
        }
        due.isTrue("the class has its line", found.contains("public final class WallPartition {"));
        long all = found.stream().filter(line -> line.startsWith("    public ")).count();
        due.is("lines of the public face", all, LINES.length);
    }

    /** Words of Java that LANGUAGE.md leaves out, or that this class has no use for. */
    private static void words() throws Exception {
        String source = Files.readString(Path.of("src/main/java/WallPartition.java"))
                .replaceAll("(?s)/\\*.*?\\*/", "").replaceAll("//.*", "");
        String[] words = {"import ", "package ", "try ", "catch ", "throw ", "throws ", "finally ",
            "synchronized", "assert ", "->", "::", "instanceof", "Math.sqrt", "static {", "System.",
            "NaN", "var ", "native ", "volatile ", "equals(", "hashCode", "toString", "Exact("};
        for (String word : words) {
            due.isTrue("the program has no '" + word + "'", !source.contains(word));
        }
        for (int i = 0; i < source.length(); i++) {
            if (source.charAt(i) > 126) {
                due.isTrue("the program has the signs 1 to 127 alone", false);
            }
        }
    }

    /** Rows are made with the object: a thousand calls must leave the objects inside as few. */
    private static void newsAreInConstructors() throws Exception {
        boolean inMethod = false;
        for (String line : Files.readAllLines(Path.of("src/main/java/WallPartition.java"))) {
            if (line.matches(" {4,8}[^ ].*\\) \\{")) {
                inMethod = !line.matches(" +(public )?[A-Z]\\w*\\(.*");
            } else if (line.matches(" {4,8}\\}")) {
                inMethod = false;
            }
            if (inMethod) {
                due.isTrue("no object is made in a call: " + line, !line.contains("new "));
            }
        }
    }

    public static void main(String[] args) throws Exception {
        typeAndConstructor();
        constants();
        methods();
        lines();
        words();
        newsAreInConstructors();
        due.close("FaceTest");
    }
}
