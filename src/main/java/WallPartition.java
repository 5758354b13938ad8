/**
 * A binary space partition of walls in the plane: a tree of wall pieces that gives their
 * back-to-front order for every point of view, and rays for lines of sight.
 *
 * All rows are made with the object and used again, so that no call makes an object.
 */
public final class WallPartition {
    public static final int NO_SUCH_WALL = -1;
    public static final int BAD_VALUE = -2;
    public static final int NO_ROOM = -3;
    public static final int ZERO_LENGTH = -4;
    public static final int NOT_POSSIBLE = -5;
    public static final int NO_SUCH_PIECE = -6;
    public static final int NO_SUCH_NODE = -7;
    public static final int NONE = -8;
    public static final int TEXT_FAULT = -9;

    private static final int MAX_WALLS = 12;
    private static final int MAX_COORDINATE = 63;
    private static final int SOLID = 0;
    private static final int GLASS = 1;
    private static final int ONE_WAY = 2;
    private static final int MAX_WEIGHT = 9;
    private static final int MAX_DIRECTION = 8;
    private static final int COLUMNS = 32;
    private static final int MAX_STEPS = 60;
    private static final int GRID_POINTS = 8;
    private static final int GRID_STEP = 8;
    private static final int MAX_TRIED_WEIGHT = 3;
    private static final int MAX_FREE_WALLS = 5;

    /** The line of each other wall cuts a wall at one position only: at most 12 pieces a wall. */
    private static final int MAX_PIECES = MAX_WALLS * MAX_WALLS;

    private static final int ON_LINE = 0;
    private static final int FRONT = 1;
    private static final int BEHIND = 2;
    private static final int CROSSING = 3;

    private final Walls walls;
    private final Walls built;
    private final Walls loaded;
    private final History history;
    private final WallText text;
    private final Tree tree;
    private final Tree considered;
    private final DrawOrder drawing;
    private final FreeTrees freeTrees;
    private final Ray ray;
    private final Nearest nearest;
    private int builds;
    private boolean treeIsPresent;

    public WallPartition() {
        walls = new Walls();
        built = new Walls();
        loaded = new Walls();
        history = new History();
        text = new WallText();
        tree = new Tree(walls);
        considered = new Tree(walls);
        drawing = new DrawOrder(walls, tree);
        freeTrees = new FreeTrees(walls);
        ray = new Ray(walls);
        nearest = new Nearest(walls);
        builds = 0;
        treeIsPresent = true;
    }

    // ---- Walls

    public int addWall(int x1, int y1, int x2, int y2, int kind, int movable) {
        if (isBadPoint(x1, y1) || isBadPoint(x2, y2)) {
            return BAD_VALUE;
        }
        if (isOutside(kind, SOLID, ONE_WAY) || isOutside(movable, 0, 1)) {
            return BAD_VALUE;
        }
        if (x1 == x2 && y1 == y2) {
            return ZERO_LENGTH;
        }
        int wall = walls.lowestFree();
        if (wall < 0) {
            return NO_ROOM;
        }
        beginEdit();
        walls.put(wall, x1, y1, x2, y2, kind, movable);
        return wall;
    }

    public int removeWall(int wall) {
        if (!walls.exists(wall)) {
            return NO_SUCH_WALL;
        }
        beginEdit();
        walls.drop(wall);
        return walls.total();
    }

    public int moveWall(int wall, int dx, int dy) {
        if (!walls.exists(wall)) {
            return NO_SUCH_WALL;
        }
        if (isOutside(dx, -MAX_COORDINATE, MAX_COORDINATE)
                || isOutside(dy, -MAX_COORDINATE, MAX_COORDINATE)) {
            return BAD_VALUE;
        }
        if (isBadPoint(walls.startX(wall) + dx, walls.startY(wall) + dy)
                || isBadPoint(walls.endX(wall) + dx, walls.endY(wall) + dy)) {
            return BAD_VALUE;
        }
        int before = pointCode(walls.startX(wall), walls.startY(wall));
        beginEdit();
        walls.shift(wall, dx, dy);
        return before;
    }

    public int turnWall(int wall) {
        if (!walls.exists(wall)) {
            return NO_SUCH_WALL;
        }
        beginEdit();
        walls.turn(wall);
        return walls.kindOf(wall);
    }

    public int setKind(int wall, int kind) {
        if (!walls.exists(wall)) {
            return NO_SUCH_WALL;
        }
        if (isOutside(kind, SOLID, ONE_WAY)) {
            return BAD_VALUE;
        }
        int before = walls.kindOf(wall);
        beginEdit();
        walls.changeKind(wall, kind);
        return before;
    }

    public int setWeights(int split, int balance) {
        if (areBadWeights(split, balance)) {
            return BAD_VALUE;
        }
        int before = walls.weightCode();
        beginEdit();
        walls.changeWeights(split, balance);
        return before;
    }

    public int undo() {
        if (history.isEmpty()) {
            return NOT_POSSIBLE;
        }
        history.restore(walls);
        treeIsPresent = false;
        return history.size();
    }

    public int wallCount() {
        return walls.total();
    }

    public int coordinate(int wall, int which) {
        if (!walls.exists(wall)) {
            return NO_SUCH_WALL;
        }
        switch (which) {
            case 0:
                return walls.startX(wall);
            case 1:
                return walls.startY(wall);
            case 2:
                return walls.endX(wall);
            case 3:
                return walls.endY(wall);
            default:
                return BAD_VALUE;
        }
    }

    public int kind(int wall) {
        if (!walls.exists(wall)) {
            return NO_SUCH_WALL;
        }
        return walls.kindOf(wall) + (walls.isMovable(wall) ? 10 : 0);
    }

    public int weights() {
        return walls.weightCode();
    }

    // ---- The text

    public int appendText(int code) {
        if (isOutside(code, WallText.LOWEST_CODE, WallText.HIGHEST_CODE)) {
            return BAD_VALUE;
        }
        if (text.isFull()) {
            return NO_ROOM;
        }
        text.append(code);
        return text.length();
    }

    public int clearText() {
        int before = text.length();
        text.clear();
        return before;
    }

    public int load() {
        if (!text.readInto(loaded)) {
            return TEXT_FAULT;
        }
        beginEdit();
        walls.copyWalls(loaded);
        return walls.total();
    }

    public int faultPlace() {
        return text.placeOfFault();
    }

    public int faultKind() {
        return text.kindOfFault();
    }

    public int faultItem() {
        return text.itemOfFault();
    }

    // ---- The tree

    public int nodeCount() {
        needTree();
        return tree.nodeTotal();
    }

    public int nodeWall(int node) {
        needTree();
        return tree.hasNode(node) ? tree.wallOfNode(node) : NO_SUCH_NODE;
    }

    public int nodeChild(int node, int side) {
        if (isOutside(side, 0, 1)) {
            return BAD_VALUE;
        }
        needTree();
        if (!tree.hasNode(node)) {
            return NO_SUCH_NODE;
        }
        int child = side == 0 ? tree.frontOf(node) : tree.backOf(node);
        return child >= 0 ? child : NONE;
    }

    public int nodeDepth(int node) {
        needTree();
        return tree.hasNode(node) ? tree.depthOf(node) : NO_SUCH_NODE;
    }

    public int pieceCount() {
        needTree();
        return tree.pieceTotal();
    }

    public int pieceWall(int piece) {
        needTree();
        return tree.hasPiece(piece) ? tree.wallOfPiece(piece) : NO_SUCH_PIECE;
    }

    public int pieceNode(int piece) {
        needTree();
        return tree.hasPiece(piece) ? tree.nodeOfPiece(piece) : NO_SUCH_PIECE;
    }

    public int pieceBound(int piece, int which) {
        if (isOutside(which, 0, 3)) {
            return BAD_VALUE;
        }
        needTree();
        return tree.hasPiece(piece) ? tree.boundOfPiece(piece, which) : NO_SUCH_PIECE;
    }

    public double pieceLength(int piece) {
        needTree();
        if (!tree.hasPiece(piece)) {
            return (double) NO_SUCH_PIECE;
        }
        double start = quotient(tree.boundOfPiece(piece, 0), tree.boundOfPiece(piece, 1));
        double end = quotient(tree.boundOfPiece(piece, 2), tree.boundOfPiece(piece, 3));
        return (end - start) * squareRoot(walls.squaredLength(tree.wallOfPiece(piece)));
    }

    public int locate(int x, int y) {
        if (isBadPoint(x, y)) {
            return BAD_VALUE;
        }
        needTree();
        return tree.leafAt(x, y);
    }

    public double meanLeafDepth() {
        needTree();
        return quotient(tree.leafDepthSum(), tree.leafTotal());
    }

    public int buildCount() {
        return builds;
    }

    // ---- Drawing

    public int drawCount(int x, int y) {
        if (isBadPoint(x, y)) {
            return BAD_VALUE;
        }
        needTree();
        drawing.arrange(x, y);
        return drawing.size();
    }

    public int drawPiece(int x, int y, int index) {
        if (isBadPoint(x, y) || index < 0) {
            return BAD_VALUE;
        }
        needTree();
        drawing.arrange(x, y);
        return index < drawing.size() ? drawing.pieceAt(index) : NONE;
    }

    public int paintCount(int x, int y, int dx, int dy) {
        if (isBadPicture(x, y, dx, dy)) {
            return BAD_VALUE;
        }
        needTree();
        drawing.arrange(x, y);
        ray.standAt(x, y);
        int painted = 0;
        for (int column = 0; column < COLUMNS; column++) {
            ray.aimAtColumn(dx, dy, column);
            painted += countCovering();
        }
        return painted;
    }

    public int paintedPiece(int x, int y, int dx, int dy, int column) {
        if (isBadPicture(x, y, dx, dy) || isBadColumn(column)) {
            return BAD_VALUE;
        }
        needTree();
        drawing.arrange(x, y);
        ray.standAt(x, y);
        ray.aimAtColumn(dx, dy, column);
        for (int index = drawing.size() - 1; index >= 0; index--) {
            int piece = drawing.pieceAt(index);
            if (walls.kindOf(tree.wallOfPiece(piece)) != GLASS && covers(piece)) {
                return piece;
            }
        }
        return NONE;
    }

    // ---- Rays

    public int blocker(int x1, int y1, int x2, int y2) {
        if (isBadPoint(x1, y1) || isBadPoint(x2, y2) || (x1 == x2 && y1 == y2)) {
            return BAD_VALUE;
        }
        ray.standAt(x1, y1);
        ray.aim(x2 - x1, y2 - y1);
        ray.findFirstHit();
        return ray.firstHitIsWithinOne() ? ray.firstHitWall() : NONE;
    }

    public int columnWall(int x, int y, int dx, int dy, int column) {
        if (isBadPicture(x, y, dx, dy) || isBadColumn(column)) {
            return BAD_VALUE;
        }
        ray.standAt(x, y);
        ray.aimAtColumn(dx, dy, column);
        ray.findFirstHit();
        return ray.firstHitWall();
    }

    public int columnDistance(int x, int y, int dx, int dy, int column, int part) {
        if (isBadPicture(x, y, dx, dy) || isBadColumn(column) || isOutside(part, 0, 1)) {
            return BAD_VALUE;
        }
        ray.standAt(x, y);
        ray.aimAtColumn(dx, dy, column);
        ray.findFirstHit();
        if (ray.firstHitWall() == NONE) {
            return NONE;
        }
        return (int) lowestPart(ray.firstHitTop(), ray.firstHitBottom(), part);
    }

    public int paneCount(int x, int y, int dx, int dy, int column) {
        if (isBadPicture(x, y, dx, dy) || isBadColumn(column)) {
            return BAD_VALUE;
        }
        ray.standAt(x, y);
        ray.aimAtColumn(dx, dy, column);
        ray.findFirstHit();
        return ray.countPanes();
    }

    public int seenColumns(int x, int y, int dx, int dy, int wall) {
        if (isBadPicture(x, y, dx, dy)) {
            return BAD_VALUE;
        }
        if (!walls.exists(wall)) {
            return NO_SUCH_WALL;
        }
        ray.standAt(x, y);
        int seen = 0;
        for (int column = 0; column < COLUMNS; column++) {
            ray.aimAtColumn(dx, dy, column);
            ray.findFirstHit();
            if (ray.firstHitWall() == wall) {
                seen++;
            }
        }
        return seen;
    }

    public int seenPoints(int x, int y) {
        return isBadPoint(x, y) ? BAD_VALUE : countSeenFrom(x, y);
    }

    public int lookout(int which) {
        if (isOutside(which, 0, 1)) {
            return BAD_VALUE;
        }
        int bestPoint = 0;
        int mostSeen = -1;
        for (int i = 0; i < GRID_POINTS; i++) {
            for (int j = 0; j < GRID_POINTS; j++) {
                int seen = countSeenFrom(i * GRID_STEP, j * GRID_STEP);
                if (seen > mostSeen) {
                    mostSeen = seen;
                    bestPoint = pointCode(i * GRID_STEP, j * GRID_STEP);
                }
            }
        }
        return which == 0 ? bestPoint : mostSeen;
    }

    // ---- Walking and distances

    public int walk(int x, int y, int dx, int dy) {
        if (isBadPoint(x, y) || isBadDirection(dx, dy)) {
            return BAD_VALUE;
        }
        return placeAfterMove(x, y, dx, dy);
    }

    public int wander(int x, int y, int state, int steps) {
        if (isBadPoint(x, y) || state < 0 || isOutside(steps, 1, MAX_STEPS)) {
            return BAD_VALUE;
        }
        long present = state;
        int place = pointCode(x, y);
        for (int step = 0; step < steps; step++) {
            present = nextState(present);
            int dx = randomMove(present);
            present = nextState(present);
            int dy = randomMove(present);
            place = placeAfterMove(place / 64, place % 64, dx, dy);
        }
        return place;
    }

    public int nearestWall(int x, int y) {
        if (isBadPoint(x, y)) {
            return BAD_VALUE;
        }
        nearest.find(x, y);
        return nearest.wall();
    }

    public long clearance(int x, int y, int part) {
        if (isBadPoint(x, y) || isOutside(part, 0, 1)) {
            return BAD_VALUE;
        }
        nearest.find(x, y);
        if (nearest.wall() == NONE) {
            return NONE;
        }
        return lowestPart(nearest.top(), nearest.bottom(), part);
    }

    // ---- Other trees of the fixed walls

    public int piecesWith(int split, int balance) {
        if (areBadWeights(split, balance)) {
            return BAD_VALUE;
        }
        considered.make(split, balance, false);
        return considered.pieceTotal();
    }

    public int bestWeights() {
        int best = 0;
        int fewest = -1;
        int leastDepth = 0;
        for (int split = 0; split <= MAX_TRIED_WEIGHT; split++) {
            for (int balance = 0; balance <= MAX_TRIED_WEIGHT; balance++) {
                considered.make(split, balance, false);
                int pieces = considered.pieceTotal();
                int depth = considered.greatestLeafDepth();
                if (fewest < 0 || pieces < fewest || (pieces == fewest && depth < leastDepth)) {
                    fewest = pieces;
                    leastDepth = depth;
                    best = 10 * split + balance;
                }
            }
        }
        return best;
    }

    public int leastPieces() {
        if (walls.fixedTotal() > MAX_FREE_WALLS) {
            return NOT_POSSIBLE;
        }
        freeTrees.search();
        return freeTrees.fewestPieces();
    }

    public int bestRoot() {
        if (walls.fixedTotal() > MAX_FREE_WALLS) {
            return NOT_POSSIBLE;
        }
        freeTrees.search();
        return freeTrees.rootWall();
    }

    // ---- Helpers of the calls above

    private static boolean isOutside(int value, int low, int high) {
        return value < low || value > high;
    }

    private static boolean isBadPoint(int x, int y) {
        return isOutside(x, 0, MAX_COORDINATE) || isOutside(y, 0, MAX_COORDINATE);
    }

    private static boolean isBadDirection(int dx, int dy) {
        return isOutside(dx, -MAX_DIRECTION, MAX_DIRECTION)
                || isOutside(dy, -MAX_DIRECTION, MAX_DIRECTION);
    }

    private static boolean isBadPicture(int x, int y, int dx, int dy) {
        return isBadPoint(x, y) || isBadDirection(dx, dy) || (dx == 0 && dy == 0);
    }

    private static boolean isBadColumn(int column) {
        return isOutside(column, 0, COLUMNS - 1);
    }

    private static boolean areBadWeights(int split, int balance) {
        return isOutside(split, 0, MAX_WEIGHT) || isOutside(balance, 0, MAX_WEIGHT);
    }

    private static int pointCode(int x, int y) {
        return 64 * x + y;
    }

    private void beginEdit() {
        history.keep(walls);
        treeIsPresent = false;
    }

    /** Without an edit since the last call, nothing can differ from the latest build. */
    private void needTree() {
        if (treeIsPresent) {
            return;
        }
        if (!built.hasSameFixedPart(walls)) {
            built.copyFrom(walls);
            builds++;
        }
        tree.make(walls.splitWeight(), walls.balanceWeight(), true);
        treeIsPresent = true;
    }

    /** How many drawn pieces cover the column at which the ray is aimed. */
    private int countCovering() {
        int covering = 0;
        for (int index = 0; index < drawing.size(); index++) {
            if (covers(drawing.pieceAt(index))) {
                covering++;
            }
        }
        return covering;
    }

    private boolean covers(int piece) {
        return ray.hits(tree.wallOfPiece(piece))
                && ray.hitIsAtOrAfter(tree.boundOfPiece(piece, 0), tree.boundOfPiece(piece, 1))
                && ray.hitIsAtOrBefore(tree.boundOfPiece(piece, 2), tree.boundOfPiece(piece, 3));
    }

    private int countSeenFrom(int x, int y) {
        ray.standAt(x, y);
        int seen = 0;
        for (int i = 0; i < GRID_POINTS; i++) {
            for (int j = 0; j < GRID_POINTS; j++) {
                if (sees(i * GRID_STEP - x, j * GRID_STEP - y)) {
                    seen++;
                }
            }
        }
        return seen;
    }

    private boolean sees(int wayX, int wayY) {
        if (wayX == 0 && wayY == 0) {
            return false;
        }
        ray.aim(wayX, wayY);
        return !ray.isBlocked();
    }

    private int placeAfterMove(int x, int y, int dx, int dy) {
        ray.standAt(x, y);
        if (canMove(x, y, dx, dy)) {
            return pointCode(x + dx, y + dy);
        }
        if (canMove(x, y, dx, 0)) {
            return pointCode(x + dx, y);
        }
        if (canMove(x, y, 0, dy)) {
            return pointCode(x, y + dy);
        }
        return pointCode(x, y);
    }

    private boolean canMove(int x, int y, int dx, int dy) {
        return !isBadPoint(x + dx, y + dy) && sees(dx, dy);
    }

    private static long nextState(long state) {
        return (1103515245L * state + 12345L) % 2147483648L;
    }

    private static int randomMove(long state) {
        return (int) (state / 65536L % 7L) - 3;
    }

    private static double quotient(int top, int bottom) {
        return bottom == 0 ? 0.0 : (double) top / (double) bottom;
    }

    private static long greatestDivisor(long first, long second) {
        long a = first;
        long b = second;
        // Euclid's steps: a long has fewer than 100 of them
        for (int step = 0; step < 100 && b != 0; step++) {
            long rest = a % b;
            a = b;
            b = rest;
        }
        return a < 0 ? -a : a;
    }

    private static long lowestPart(long top, long bottom, int part) {
        long divisor = greatestDivisor(top, bottom);
        if (divisor == 0) {
            return 0;
        }
        return part == 0 ? top / divisor : bottom / divisor;
    }

    /**
     * The square root of an integer from 0 to 7938, as the nearest double. It is found digit by
     * binary digit with exact integers, since the language has no square root of doubles.
     */
    private static double squareRoot(int square) {
        long root = 0;
        for (int i = 0; i < 100 && (root + 1) * (root + 1) <= square; i++) {
            root++;
        }
        if (root == 0) {
            return 0.0;
        }
        long rest = square - root * root;
        double scale = 1.0;
        // a double has 53 digits; one more tells which way to round, and it is never a tie,
        // because a root that is no integer has no last digit
        for (int digit = 0; digit < 54 && root < (1L << 53); digit++) {
            rest = 4 * rest;
            long step = 4 * root + 1;
            root = 2 * root;
            if (rest >= step) {
                rest -= step;
                root++;
            }
            scale = scale * 2.0;
        }
        return (double) ((root + 1) / 2) / (scale / 2.0);
    }

    /** The walls with their numbers, and both weights: all that an edit can change. */
    private static final class Walls {
        private final boolean[] present = new boolean[MAX_WALLS];
        private final boolean[] movable = new boolean[MAX_WALLS];
        private final int[] startX = new int[MAX_WALLS];
        private final int[] startY = new int[MAX_WALLS];
        private final int[] endX = new int[MAX_WALLS];
        private final int[] endY = new int[MAX_WALLS];
        private final int[] kinds = new int[MAX_WALLS];
        private int split = 5;
        private int balance = 1;

        boolean exists(int wall) {
            return wall >= 0 && wall < MAX_WALLS && present[wall];
        }

        boolean isFixed(int wall) {
            return wall >= 0 && wall < MAX_WALLS && present[wall] && !movable[wall];
        }

        boolean isMovable(int wall) {
            return wall >= 0 && wall < MAX_WALLS && present[wall] && movable[wall];
        }

        int lowestFree() {
            for (int wall = 0; wall < MAX_WALLS; wall++) {
                if (!present[wall]) {
                    return wall;
                }
            }
            return -1;
        }

        int total() {
            int count = 0;
            for (int wall = 0; wall < MAX_WALLS; wall++) {
                if (present[wall]) {
                    count++;
                }
            }
            return count;
        }

        int fixedTotal() {
            int count = 0;
            for (int wall = 0; wall < MAX_WALLS; wall++) {
                if (isFixed(wall)) {
                    count++;
                }
            }
            return count;
        }

        int startX(int wall) {
            return wall >= 0 && wall < MAX_WALLS ? startX[wall] : 0;
        }

        int startY(int wall) {
            return wall >= 0 && wall < MAX_WALLS ? startY[wall] : 0;
        }

        int endX(int wall) {
            return wall >= 0 && wall < MAX_WALLS ? endX[wall] : 0;
        }

        int endY(int wall) {
            return wall >= 0 && wall < MAX_WALLS ? endY[wall] : 0;
        }

        int kindOf(int wall) {
            return wall >= 0 && wall < MAX_WALLS ? kinds[wall] : SOLID;
        }

        int splitWeight() {
            return split;
        }

        int balanceWeight() {
            return balance;
        }

        int weightCode() {
            return 10 * split + balance;
        }

        int wayX(int wall) {
            return wall >= 0 && wall < MAX_WALLS ? endX[wall] - startX[wall] : 0;
        }

        int wayY(int wall) {
            return wall >= 0 && wall < MAX_WALLS ? endY[wall] - startY[wall] : 0;
        }

        int squaredLength(int wall) {
            return wayX(wall) * wayX(wall) + wayY(wall) * wayY(wall);
        }

        /** Above 0 in front of the wall, below 0 behind it, 0 on its line. */
        int sideValue(int wall, int x, int y) {
            if (wall < 0 || wall >= MAX_WALLS) {
                return 0;
            }
            return (endX[wall] - startX[wall]) * (y - startY[wall])
                    - (endY[wall] - startY[wall]) * (x - startX[wall]);
        }

        boolean isOpaqueFor(int wall, int x, int y) {
            if (!exists(wall) || kindOf(wall) == GLASS) {
                return false;
            }
            return kindOf(wall) == SOLID || sideValue(wall, x, y) > 0;
        }

        boolean isDrawnFor(int wall, int x, int y) {
            if (!exists(wall)) {
                return false;
            }
            int side = sideValue(wall, x, y);
            return side > 0 || (side < 0 && kindOf(wall) != ONE_WAY);
        }

        void put(int wall, int x1, int y1, int x2, int y2, int kind, int movability) {
            if (wall < 0 || wall >= MAX_WALLS) {
                return;
            }
            present[wall] = true;
            movable[wall] = movability == 1;
            startX[wall] = x1;
            startY[wall] = y1;
            endX[wall] = x2;
            endY[wall] = y2;
            kinds[wall] = kind;
        }

        void drop(int wall) {
            if (wall >= 0 && wall < MAX_WALLS) {
                present[wall] = false;
            }
        }

        void dropAll() {
            for (int wall = 0; wall < MAX_WALLS; wall++) {
                present[wall] = false;
            }
        }

        void shift(int wall, int dx, int dy) {
            if (wall < 0 || wall >= MAX_WALLS) {
                return;
            }
            startX[wall] += dx;
            startY[wall] += dy;
            endX[wall] += dx;
            endY[wall] += dy;
        }

        void turn(int wall) {
            if (wall < 0 || wall >= MAX_WALLS) {
                return;
            }
            int x = startX[wall];
            int y = startY[wall];
            startX[wall] = endX[wall];
            startY[wall] = endY[wall];
            endX[wall] = x;
            endY[wall] = y;
        }

        void changeKind(int wall, int kind) {
            if (wall >= 0 && wall < MAX_WALLS) {
                kinds[wall] = kind;
            }
        }

        void changeWeights(int newSplit, int newBalance) {
            split = newSplit;
            balance = newBalance;
        }

        void copyWalls(Walls other) {
            for (int wall = 0; wall < MAX_WALLS; wall++) {
                present[wall] = other.present[wall];
                movable[wall] = other.movable[wall];
                startX[wall] = other.startX[wall];
                startY[wall] = other.startY[wall];
                endX[wall] = other.endX[wall];
                endY[wall] = other.endY[wall];
                kinds[wall] = other.kinds[wall];
            }
        }

        void copyFrom(Walls other) {
            copyWalls(other);
            changeWeights(other.split, other.balance);
        }

        /** Kinds do not matter: the tree is made of lines and positions only. */
        boolean hasSameFixedPart(Walls other) {
            if (split != other.split || balance != other.balance) {
                return false;
            }
            for (int wall = 0; wall < MAX_WALLS; wall++) {
                if (isFixed(wall) != other.isFixed(wall)) {
                    return false;
                }
                if (isFixed(wall) && !hasSamePoints(wall, other)) {
                    return false;
                }
            }
            return true;
        }

        private boolean hasSamePoints(int wall, Walls other) {
            return startX(wall) == other.startX(wall) && startY(wall) == other.startY(wall)
                    && endX(wall) == other.endX(wall) && endY(wall) == other.endY(wall);
        }
    }

    /** The states before the latest edits, in a ring in which the newest replaces the oldest. */
    private static final class History {
        private static final int ROOM = 8;

        private final Walls[] kept = new Walls[ROOM];
        private int next;
        private int count;

        History() {
            for (int i = 0; i < ROOM; i++) {
                kept[i] = new Walls();
            }
            next = 0;
            count = 0;
        }

        boolean isEmpty() {
            return count == 0;
        }

        int size() {
            return count;
        }

        void keep(Walls walls) {
            Walls place = placeAt(next);
            if (place == null) {
                return;
            }
            place.copyFrom(walls);
            next = next + 1 < ROOM ? next + 1 : 0;
            count = count < ROOM ? count + 1 : ROOM;
        }

        void restore(Walls walls) {
            int latest = next > 0 ? next - 1 : ROOM - 1;
            Walls place = placeAt(latest);
            if (place == null || count == 0) {
                return;
            }
            walls.copyFrom(place);
            next = latest;
            count--;
        }

        private Walls placeAt(int index) {
            return index >= 0 && index < ROOM ? kept[index] : null;
        }
    }

    /** The text from which walls are read, and the latest fault that was found in one. */
    private static final class WallText {
        static final int LOWEST_CODE = 32;
        static final int HIGHEST_CODE = 126;
        private static final int ROOM = 300;
        private static final int NUMBERS = 4;
        private static final int WRONG_CHARACTER = 1;
        private static final int WRONG_NUMBER = 2;
        private static final int WRONG_POINTS = 3;
        private static final int WRONG_ITEM = 4;
        private static final int END_OF_TEXT = -1;

        private final int[] codes = new int[ROOM];
        private final int[] numbers = new int[NUMBERS];
        private int count = 0;
        private int place = 0;
        private int foundPlace = NONE;
        private int foundKind = NONE;
        private int foundItem = NONE;

        int length() {
            return count;
        }

        boolean isFull() {
            return count >= ROOM;
        }

        void append(int code) {
            if (count >= 0 && count < ROOM) {
                codes[count] = code;
                count++;
            }
        }

        void clear() {
            count = 0;
        }

        int placeOfFault() {
            return foundPlace;
        }

        int kindOfFault() {
            return foundKind;
        }

        int itemOfFault() {
            return foundItem;
        }

        /** Whether the text has no fault; only then are the walls in target those of the text. */
        boolean readInto(Walls target) {
            target.dropAll();
            place = 0;
            // a thirteenth item is always a fault, so that none comes after it
            for (int item = 0; item <= MAX_WALLS && place < count; item++) {
                if (!readItem(item, target)) {
                    return false;
                }
            }
            return true;
        }

        private boolean readItem(int item, Walls target) {
            int kind = kindOfLetter(codeAt(place));
            if (kind < 0) {
                return fault(WRONG_CHARACTER, place, item);
            }
            if (item >= MAX_WALLS) {
                return fault(WRONG_ITEM, place, item);
            }
            place++;
            int movability = 0;
            if (codeAt(place) == 'm') {
                movability = 1;
                place++;
            }
            for (int i = 0; i < NUMBERS; i++) {
                if (!readNumber(i, item)) {
                    return false;
                }
            }
            if (numbers[0] == numbers[2] && numbers[1] == numbers[3]) {
                return fault(WRONG_POINTS, place - 1, item);
            }
            target.put(item, numbers[0], numbers[1], numbers[2], numbers[3], kind, movability);
            return true;
        }

        /** Reads a number and the comma or semicolon behind it. */
        private boolean readNumber(int which, int item) {
            int first = place;
            if (!isDigit(codeAt(place))) {
                return fault(WRONG_CHARACTER, place, item);
            }
            int value = codeAt(place) - '0';
            place++;
            if (isDigit(codeAt(place))) {
                value = 10 * value + codeAt(place) - '0';
                place++;
            }
            if (value > MAX_COORDINATE) {
                return fault(WRONG_NUMBER, first, item);
            }
            if (codeAt(place) != (which < NUMBERS - 1 ? ',' : ';')) {
                return fault(WRONG_CHARACTER, place, item);
            }
            place++;
            if (which >= 0 && which < NUMBERS) {
                numbers[which] = value;
            }
            return true;
        }

        private boolean fault(int kind, int where, int item) {
            foundKind = kind;
            foundPlace = where;
            foundItem = item;
            return false;
        }

        private int codeAt(int index) {
            return index >= 0 && index < count && index < ROOM ? codes[index] : END_OF_TEXT;
        }

        private static boolean isDigit(int code) {
            return code >= '0' && code <= '9';
        }

        private static int kindOfLetter(int code) {
            switch (code) {
                case 's':
                    return SOLID;
                case 'g':
                    return GLASS;
                case 'o':
                    return ONE_WAY;
                default:
                    return -1;
            }
        }
    }

    /** A row of pieces: the wall of each, and the two positions from which and to which it goes. */
    private static final class Pieces {
        private final Walls walls;
        private final int room;
        private final int[] wallAt;
        private final int[] startTop;
        private final int[] startBottom;
        private final int[] endTop;
        private final int[] endBottom;
        private int count;

        Pieces(Walls walls, int room) {
            int size = room > 0 ? room : 0;
            this.walls = walls;
            this.room = size;
            wallAt = new int[size];
            startTop = new int[size];
            startBottom = new int[size];
            endTop = new int[size];
            endBottom = new int[size];
            count = 0;
        }

        int size() {
            return count;
        }

        boolean has(int piece) {
            return piece >= 0 && piece < count && piece < room;
        }

        int wallOf(int piece) {
            return has(piece) ? wallAt[piece] : NONE;
        }

        /** 0 and 1 for the numerator and denominator of the start, 2 and 3 for those of the end. */
        int bound(int piece, int which) {
            if (!has(piece)) {
                return 0;
            }
            switch (which) {
                case 0:
                    return startTop[piece];
                case 1:
                    return startBottom[piece];
                case 2:
                    return endTop[piece];
                default:
                    return endBottom[piece];
            }
        }

        void shorten(int size) {
            if (size >= 0 && size < count) {
                count = size;
            }
        }

        void addWhole(int wall) {
            add(wall, 0, 1, 1, 1);
        }

        /** Adds all fixed or all movable walls, each as one piece, in ascending order. */
        void addWalls(boolean movable) {
            for (int wall = 0; wall < MAX_WALLS; wall++) {
                if (movable ? walls.isMovable(wall) : walls.isFixed(wall)) {
                    addWhole(wall);
                }
            }
        }

        /** Adds what lies on this side of a wall, or on its line, of the pieces of a list. */
        void addSide(Pieces source, int from, int to, int splitter, int side) {
            for (int piece = from; piece < to; piece++) {
                int place = source.placeOf(piece, splitter);
                if (place == side) {
                    addCopy(source, piece);
                } else if (place == CROSSING && side != ON_LINE) {
                    addPart(source, piece, splitter, side);
                }
            }
        }

        /** Whether a piece is on the line of a wall, in front of it, behind it, or crosses it. */
        int placeOf(int piece, int splitter) {
            if (!has(piece)) {
                return ON_LINE;
            }
            int wall = wallAt[piece];
            int first = walls.sideValue(splitter, walls.startX(wall), walls.startY(wall));
            int last = walls.sideValue(splitter, walls.endX(wall), walls.endY(wall));
            // times its denominator, which leaves the sign of a side value as it is
            int atStart = first * startBottom[piece] + (last - first) * startTop[piece];
            int atEnd = first * endBottom[piece] + (last - first) * endTop[piece];
            if (atStart == 0 && atEnd == 0) {
                return ON_LINE;
            }
            if (atStart >= 0 && atEnd >= 0) {
                return FRONT;
            }
            return atStart <= 0 && atEnd <= 0 ? BEHIND : CROSSING;
        }

        private void addCopy(Pieces source, int piece) {
            if (source.has(piece)) {
                add(source.wallAt[piece], source.startTop[piece], source.startBottom[piece],
                        source.endTop[piece], source.endBottom[piece]);
            }
        }

        /** Adds the part of a piece that crosses a line on one side of it. */
        private void addPart(Pieces source, int piece, int splitter, int side) {
            if (!source.has(piece)) {
                return;
            }
            int wall = source.wallAt[piece];
            int first = walls.sideValue(splitter, walls.startX(wall), walls.startY(wall));
            int last = walls.sideValue(splitter, walls.endX(wall), walls.endY(wall));
            int divisor = (int) greatestDivisor(first, first - last);
            if (divisor == 0) {
                return;
            }
            // the side values fall or rise through 0, so that both have the same sign
            int cutTop = Math.abs(first) / divisor;
            int cutBottom = Math.abs(first - last) / divisor;
            boolean startIsInFront = first > 0;
            if (startIsInFront == (side == FRONT)) {
                add(wall, source.startTop[piece], source.startBottom[piece], cutTop, cutBottom);
            } else {
                add(wall, cutTop, cutBottom, source.endTop[piece], source.endBottom[piece]);
            }
        }

        private void add(int wall, int top1, int bottom1, int top2, int bottom2) {
            if (count < 0 || count >= room) {
                return;
            }
            wallAt[count] = wall;
            startTop[count] = top1;
            startBottom[count] = bottom1;
            endTop[count] = top2;
            endBottom[count] = bottom2;
            count++;
        }
    }

    /**
     * A tree with the numbers of its nodes, leaves and pieces. A subtree is told by the number of
     * its node, or by -1 - (number of the leaf) if it is a leaf.
     *
     * Movable walls go down with the fixed ones, behind them in each list. This is the same as
     * inserting them afterwards: where no fixed piece is left, the first movable one that gets
     * there becomes the node, and all others pass it in the order of their numbers.
     */
    private static final class Tree {
        /** A list has one piece of a wall at most, and below a node there is none of its wall. */
        private static final int ROOM_OF_LISTS = MAX_WALLS + 2 * MAX_WALLS * MAX_WALLS;

        private final Walls walls;
        private final Pieces lists;
        private final Pieces pieces;
        private final int[] nodeOfPieces = new int[MAX_PIECES];
        private final int[] wallOfNodes = new int[MAX_PIECES];
        private final int[] fronts = new int[MAX_PIECES];
        private final int[] backs = new int[MAX_PIECES];
        private final int[] depths = new int[MAX_PIECES];
        private final int[] firstPieces = new int[MAX_PIECES];
        private final int[] pieceTotals = new int[MAX_PIECES];
        private int root = -1;
        private int nodes = 0;
        private int leaves = 1;
        private int sumOfLeafDepths = 0;
        private int deepestLeaf = 0;
        private int split = 0;
        private int balance = 0;

        Tree(Walls walls) {
            this.walls = walls;
            lists = new Pieces(walls, ROOM_OF_LISTS);
            pieces = new Pieces(walls, MAX_PIECES);
        }

        void make(int splitWeight, int balanceWeight, boolean withMovable) {
            split = splitWeight;
            balance = balanceWeight;
            nodes = 0;
            leaves = 0;
            sumOfLeafDepths = 0;
            deepestLeaf = 0;
            pieces.shorten(0);
            lists.shorten(0);
            lists.addWalls(false);
            if (withMovable) {
                lists.addWalls(true);
            }
            root = makeSubtree(0, lists.size(), 0);
        }

        private int makeSubtree(int from, int to, int depth) {
            if (from >= to || depth >= MAX_WALLS || nodes >= MAX_PIECES) {
                return makeLeaf(depth);
            }
            int wall = splittingWall(from, to);
            int node = makeNode(wall, from, to, depth);
            makeBranches(node, from, to, depth);
            return node;
        }

        private void makeBranches(int node, int from, int to, int depth) {
            if (!hasNode(node)) {
                return;
            }
            int wall = wallOfNodes[node];
            int front = lists.size();
            lists.addSide(lists, from, to, wall, FRONT);
            int back = lists.size();
            lists.addSide(lists, from, to, wall, BEHIND);
            int end = lists.size();
            fronts[node] = makeSubtree(front, back, depth + 1);
            backs[node] = makeSubtree(back, end, depth + 1);
            lists.shorten(front);
        }

        private int makeLeaf(int depth) {
            sumOfLeafDepths += depth;
            deepestLeaf = Math.max(deepestLeaf, depth);
            leaves++;
            return -leaves;
        }

        private int makeNode(int wall, int from, int to, int depth) {
            int node = nodes;
            if (node < 0 || node >= MAX_PIECES) {
                return -1;
            }
            nodes++;
            int first = pieces.size();
            pieces.addSide(lists, from, to, wall, ON_LINE);
            for (int piece = first; piece < pieces.size() && piece < MAX_PIECES; piece++) {
                nodeOfPieces[piece] = node;
            }
            wallOfNodes[node] = wall;
            depths[node] = depth;
            firstPieces[node] = first;
            pieceTotals[node] = pieces.size() - first;
            return node;
        }

        /** Walls are in ascending order, so that the first of several prices is kept. */
        private int splittingWall(int from, int to) {
            int best = lists.wallOf(from);
            int leastPrice = -1;
            int fixedEnd = endOfFixed(from, to);
            for (int piece = from; piece < fixedEnd; piece++) {
                int wall = lists.wallOf(piece);
                int price = priceOf(wall, from, fixedEnd);
                if (leastPrice < 0 || price < leastPrice) {
                    best = wall;
                    leastPrice = price;
                }
            }
            return best;
        }

        private int endOfFixed(int from, int to) {
            int end = from;
            while (end < to && walls.isFixed(lists.wallOf(end))) {
                end++;
            }
            return end;
        }

        private int priceOf(int wall, int from, int to) {
            int crossing = 0;
            int imbalance = 0;
            for (int piece = from; piece < to; piece++) {
                int place = lists.placeOf(piece, wall);
                if (place == CROSSING) {
                    crossing++;
                } else if (place == FRONT) {
                    imbalance++;
                } else if (place == BEHIND) {
                    imbalance--;
                }
            }
            return split * crossing + balance * Math.abs(imbalance);
        }

        boolean hasNode(int node) {
            return node >= 0 && node < nodes && node < MAX_PIECES;
        }

        boolean hasPiece(int piece) {
            return pieces.has(piece);
        }

        int nodeTotal() {
            return nodes;
        }

        int leafTotal() {
            return leaves;
        }

        int pieceTotal() {
            return pieces.size();
        }

        int leafDepthSum() {
            return sumOfLeafDepths;
        }

        int greatestLeafDepth() {
            return deepestLeaf;
        }

        int rootSubtree() {
            return root;
        }

        int wallOfNode(int node) {
            return hasNode(node) ? wallOfNodes[node] : NONE;
        }

        int frontOf(int node) {
            return hasNode(node) ? fronts[node] : -1;
        }

        int backOf(int node) {
            return hasNode(node) ? backs[node] : -1;
        }

        int depthOf(int node) {
            return hasNode(node) ? depths[node] : 0;
        }

        int firstPieceOf(int node) {
            return hasNode(node) ? firstPieces[node] : 0;
        }

        int pieceTotalOf(int node) {
            return hasNode(node) ? pieceTotals[node] : 0;
        }

        int wallOfPiece(int piece) {
            return pieces.wallOf(piece);
        }

        int nodeOfPiece(int piece) {
            return piece >= 0 && piece < MAX_PIECES ? nodeOfPieces[piece] : 0;
        }

        int boundOfPiece(int piece, int which) {
            return pieces.bound(piece, which);
        }

        boolean isInFrontOrOnLine(int node, int x, int y) {
            return walls.sideValue(wallOfNode(node), x, y) >= 0;
        }

        int leafAt(int x, int y) {
            int subtree = root;
            for (int depth = 0; depth < MAX_WALLS && subtree >= 0; depth++) {
                subtree = isInFrontOrOnLine(subtree, x, y) ? frontOf(subtree) : backOf(subtree);
            }
            return -1 - subtree;
        }
    }

    /** The pieces that are drawn for a point of view, from back to front. */
    private static final class DrawOrder {
        private final Walls walls;
        private final Tree tree;
        private final int[] order = new int[MAX_PIECES];
        private int count = 0;
        private int eyeX = 0;
        private int eyeY = 0;

        DrawOrder(Walls walls, Tree tree) {
            this.walls = walls;
            this.tree = tree;
        }

        int size() {
            return count;
        }

        int pieceAt(int index) {
            return index >= 0 && index < count && index < MAX_PIECES ? order[index] : NONE;
        }

        void arrange(int x, int y) {
            eyeX = x;
            eyeY = y;
            count = 0;
            arrangeSubtree(tree.rootSubtree(), 0);
        }

        private void arrangeSubtree(int node, int depth) {
            if (!tree.hasNode(node) || depth >= MAX_WALLS) {
                return;
            }
            if (tree.isInFrontOrOnLine(node, eyeX, eyeY)) {
                arrangeNode(tree.backOf(node), node, tree.frontOf(node), depth);
            } else {
                arrangeNode(tree.frontOf(node), node, tree.backOf(node), depth);
            }
        }

        private void arrangeNode(int far, int node, int near, int depth) {
            arrangeSubtree(far, depth + 1);
            addPiecesOf(node);
            arrangeSubtree(near, depth + 1);
        }

        private void addPiecesOf(int node) {
            int first = tree.firstPieceOf(node);
            int end = first + tree.pieceTotalOf(node);
            for (int piece = first; piece < end && count < MAX_PIECES; piece++) {
                if (walls.isDrawnFor(tree.wallOfPiece(piece), eyeX, eyeY)) {
                    order[count] = piece;
                    count++;
                }
            }
        }
    }

    /** The search among all trees of the fixed walls, whatever their splitting walls. */
    private static final class FreeTrees {
        private static final int ROOM_OF_LISTS =
                MAX_FREE_WALLS + 2 * MAX_FREE_WALLS * MAX_FREE_WALLS;

        private final Pieces lists;
        private int fewest = 0;
        private int bestWall = NONE;

        FreeTrees(Walls walls) {
            lists = new Pieces(walls, ROOM_OF_LISTS);
        }

        int fewestPieces() {
            return fewest;
        }

        int rootWall() {
            return bestWall;
        }

        void search() {
            fewest = 0;
            bestWall = NONE;
            lists.shorten(0);
            lists.addWalls(false);
            int end = lists.size();
            for (int piece = 0; piece < end; piece++) {
                int wall = lists.wallOf(piece);
                int total = fewestWith(wall, 0, end, 0);
                if (bestWall == NONE || total < fewest) {
                    fewest = total;
                    bestWall = wall;
                }
            }
        }

        private int fewestOf(int from, int to, int depth) {
            if (from >= to || depth >= MAX_FREE_WALLS) {
                return 0;
            }
            int best = -1;
            for (int piece = from; piece < to; piece++) {
                int total = fewestWith(lists.wallOf(piece), from, to, depth);
                if (best < 0 || total < best) {
                    best = total;
                }
            }
            return best;
        }

        private int fewestWith(int wall, int from, int to, int depth) {
            int front = lists.size();
            lists.addSide(lists, from, to, wall, FRONT);
            int back = lists.size();
            lists.addSide(lists, from, to, wall, BEHIND);
            int end = lists.size();
            int total = fewestOf(front, back, depth + 1) + fewestOf(back, end, depth + 1);
            lists.shorten(front);
            for (int piece = from; piece < to; piece++) {
                if (lists.placeOf(piece, wall) == ON_LINE) {
                    total++;
                }
            }
            return total;
        }
    }

    /** A ray from a point of view, its latest hit, and its first hit with an opaque wall. */
    private static final class Ray {
        private final Walls walls;
        private final boolean[] opaque = new boolean[MAX_WALLS];
        private int eyeX = 0;
        private int eyeY = 0;
        private int wayX = 1;
        private int wayY = 0;
        /** Distance and position of the latest hit, as numerators over one denominator above 0. */
        private int hitDistance = 0;
        private int hitPosition = 0;
        private int hitBottom = 1;
        private int firstWall = NONE;
        private int firstDistance = 0;
        private int firstBottom = 1;

        Ray(Walls walls) {
            this.walls = walls;
        }

        void standAt(int x, int y) {
            eyeX = x;
            eyeY = y;
            for (int wall = 0; wall < MAX_WALLS; wall++) {
                opaque[wall] = walls.isOpaqueFor(wall, x, y);
            }
        }

        void aim(int x, int y) {
            wayX = x;
            wayY = y;
        }

        void aimAtColumn(int dx, int dy, int column) {
            int slant = COLUMNS - 1 - 2 * column;
            aim(COLUMNS * dx - slant * dy, COLUMNS * dy + slant * dx);
        }

        boolean hits(int wall) {
            if (!walls.exists(wall)) {
                return false;
            }
            int wallX = walls.wayX(wall);
            int wallY = walls.wayY(wall);
            int across = wayX * wallY - wayY * wallX;
            if (across == 0) {
                return false;
            }
            int toX = walls.startX(wall) - eyeX;
            int toY = walls.startY(wall) - eyeY;
            int sign = across > 0 ? 1 : -1;
            hitBottom = sign * across;
            hitDistance = sign * (toX * wallY - toY * wallX);
            hitPosition = sign * (toX * wayY - toY * wayX);
            return hitDistance > 0 && hitPosition >= 0 && hitPosition <= hitBottom;
        }

        boolean hitIsAtOrAfter(int top, int bottom) {
            return (long) hitPosition * bottom >= (long) top * hitBottom;
        }

        boolean hitIsAtOrBefore(int top, int bottom) {
            return (long) hitPosition * bottom <= (long) top * hitBottom;
        }

        void findFirstHit() {
            firstWall = NONE;
            for (int wall = 0; wall < MAX_WALLS; wall++) {
                if (opaque[wall] && hits(wall) && hitIsBeforeFirst()) {
                    firstWall = wall;
                    firstDistance = hitDistance;
                    firstBottom = hitBottom;
                }
            }
        }

        private boolean hitIsBeforeFirst() {
            return firstWall == NONE
                    || (long) hitDistance * firstBottom < (long) firstDistance * hitBottom;
        }

        int firstHitWall() {
            return firstWall;
        }

        int firstHitTop() {
            return firstDistance;
        }

        int firstHitBottom() {
            return firstBottom;
        }

        boolean firstHitIsWithinOne() {
            return firstWall != NONE && firstDistance <= firstBottom;
        }

        /** As firstHitIsWithinOne, but it needs no search for the first hit. */
        boolean isBlocked() {
            for (int wall = 0; wall < MAX_WALLS; wall++) {
                if (opaque[wall] && hits(wall) && hitDistance <= hitBottom) {
                    return true;
                }
            }
            return false;
        }

        int countPanes() {
            int panes = 0;
            for (int wall = 0; wall < MAX_WALLS; wall++) {
                if (walls.kindOf(wall) == GLASS && hits(wall) && hitIsBeforeFirst()) {
                    panes++;
                }
            }
            return panes;
        }
    }

    /** The wall that is nearest to a point, and its squared distance as a fraction. */
    private static final class Nearest {
        private final Walls walls;
        private int bestWall = NONE;
        private long leastTop = 0;
        private long leastBottom = 1;

        Nearest(Walls walls) {
            this.walls = walls;
        }

        int wall() {
            return bestWall;
        }

        long top() {
            return leastTop;
        }

        long bottom() {
            return leastBottom;
        }

        void find(int x, int y) {
            bestWall = NONE;
            for (int wall = 0; wall < MAX_WALLS; wall++) {
                if (walls.exists(wall)) {
                    compare(wall, x, y);
                }
            }
        }

        private void compare(int wall, int x, int y) {
            long length = walls.squaredLength(wall);
            long along = along(wall, x, y);
            if (along <= 0) {
                offer(wall, squaredWay(x - walls.startX(wall), y - walls.startY(wall)), 1);
            } else if (along >= length) {
                offer(wall, squaredWay(x - walls.endX(wall), y - walls.endY(wall)), 1);
            } else {
                long side = walls.sideValue(wall, x, y);
                offer(wall, side * side, length);
            }
        }

        /** Where the foot of the point is on the wall, from 0 to the squared length. */
        private long along(int wall, int x, int y) {
            return walls.wayX(wall) * (x - walls.startX(wall))
                    + walls.wayY(wall) * (y - walls.startY(wall));
        }

        private static long squaredWay(int wayX, int wayY) {
            return (long) wayX * wayX + (long) wayY * wayY;
        }

        private void offer(int wall, long top, long bottom) {
            if (bestWall == NONE || top * leastBottom < leastTop * bottom) {
                bestWall = wall;
                leastTop = top;
                leastBottom = bottom;
            }
        }
    }
}
