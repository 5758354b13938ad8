import java.math.BigInteger;
import java.util.ArrayDeque;
import java.util.ArrayList;
import java.util.Deque;
import java.util.List;
import java.util.TreeMap;

/**
 * The document once more, word for word and as slowly as it likes, with exact fractions and lists:
 * what WallPartition answers is compared with what this answers.
 */
public final class Model {
    /** A fraction in lowest terms with a positive denominator. */
    record Fraction(BigInteger top, BigInteger bottom) implements Comparable<Fraction> {
        static Fraction of(BigInteger top, BigInteger bottom) {
            BigInteger divisor = top.gcd(bottom);
            if (bottom.signum() < 0) {
                divisor = divisor.negate();
            }
            return new Fraction(top.divide(divisor), bottom.divide(divisor));
        }

        static Fraction of(long top, long bottom) {
            return of(BigInteger.valueOf(top), BigInteger.valueOf(bottom));
        }

        Fraction plus(Fraction o) {
            return of(top.multiply(o.bottom).add(o.top.multiply(bottom)), bottom.multiply(o.bottom));
        }

        Fraction times(Fraction o) {
            return of(top.multiply(o.top), bottom.multiply(o.bottom));
        }

        int sign() {
            return top.signum();
        }

        public int compareTo(Fraction o) {
            return top.multiply(o.bottom).compareTo(o.top.multiply(bottom));
        }
    }

    record Wall(int x1, int y1, int x2, int y2, int kind, boolean movable) {
        long side(int px, int py) {
            return (long) (x2 - x1) * (py - y1) - (long) (y2 - y1) * (px - x1);
        }

        boolean opaque(int px, int py) {
            return kind == 0 || (kind == 2 && side(px, py) > 0);
        }

        boolean drawn(int px, int py) {
            return side(px, py) != 0 && (kind != 2 || side(px, py) > 0);
        }

        boolean samePlace(Wall o) {
            return x1 == o.x1 && y1 == o.y1 && x2 == o.x2 && y2 == o.y2;
        }
    }

    record Piece(int wall, Fraction a, Fraction b) { }

    record Hit(Fraction distance, Fraction position) { }

    record Fault(int kind, int place, int item) { }

    record State(TreeMap<Integer, Wall> walls, int split, int balance) { }

    static final class Subtree {
        boolean leaf = true;
        int wall;
        List<Piece> list = new ArrayList<>();
        Subtree front;
        Subtree back;
        int number;
        int depth;
        int firstPiece;
    }

    private static final Fraction ZERO = Fraction.of(0, 1);
    private static final Fraction ONE = Fraction.of(1, 1);

    private TreeMap<Integer, Wall> walls = new TreeMap<>();
    private int split = 5;
    private int balance = 1;
    private final Deque<State> edits = new ArrayDeque<>();
    private String text = "";
    private Fault fault = null;
    private int builds = 0;
    private TreeMap<Integer, Wall> builtWalls = new TreeMap<>();
    private int builtSplit = 5;
    private int builtBalance = 1;

    private Subtree root;
    private final List<Subtree> nodes = new ArrayList<>();
    private final List<Subtree> leaves = new ArrayList<>();
    private final List<Piece> pieces = new ArrayList<>();
    private final List<Subtree> pieceNodes = new ArrayList<>();

    private static boolean in(int v, int low, int high) {
        return low <= v && v <= high;
    }

    private static boolean point(int x, int y) {
        return in(x, 0, 63) && in(y, 0, 63);
    }

    private static boolean picture(int x, int y, int dx, int dy) {
        return point(x, y) && in(dx, -8, 8) && in(dy, -8, 8) && !(dx == 0 && dy == 0);
    }

    private void edit() {
        edits.addFirst(new State(new TreeMap<>(walls), split, balance));
        if (edits.size() > 8) {
            edits.removeLast();
        }
    }

    public int addWall(int x1, int y1, int x2, int y2, int kind, int movable) {
        if (!point(x1, y1) || !point(x2, y2) || !in(kind, 0, 2) || !in(movable, 0, 1)) return -2;
        if (x1 == x2 && y1 == y2) return -4;
        if (walls.size() == 12) return -3;
        int number = 0;
        while (walls.containsKey(number)) number++;
        edit();
        walls.put(number, new Wall(x1, y1, x2, y2, kind, movable == 1));
        return number;
    }

    public int removeWall(int wall) {
        if (!walls.containsKey(wall)) return -1;
        edit();
        walls.remove(wall);
        return walls.size();
    }

    public int moveWall(int wall, int dx, int dy) {
        Wall w = walls.get(wall);
        if (w == null) return -1;
        if (!in(dx, -63, 63) || !in(dy, -63, 63)) return -2;
        if (!point(w.x1 + dx, w.y1 + dy) || !point(w.x2 + dx, w.y2 + dy)) return -2;
        edit();
        walls.put(wall, new Wall(w.x1 + dx, w.y1 + dy, w.x2 + dx, w.y2 + dy, w.kind, w.movable));
        return 64 * w.x1 + w.y1;
    }

    public int turnWall(int wall) {
        Wall w = walls.get(wall);
        if (w == null) return -1;
        edit();
        walls.put(wall, new Wall(w.x2, w.y2, w.x1, w.y1, w.kind, w.movable));
        return w.kind;
    }

    public int setKind(int wall, int kind) {
        Wall w = walls.get(wall);
        if (w == null) return -1;
        if (!in(kind, 0, 2)) return -2;
        edit();
        walls.put(wall, new Wall(w.x1, w.y1, w.x2, w.y2, kind, w.movable));
        return w.kind;
    }

    public int setWeights(int s, int b) {
        if (!in(s, 0, 9) || !in(b, 0, 9)) return -2;
        int before = weights();
        edit();
        split = s;
        balance = b;
        return before;
    }

    public int undo() {
        if (edits.isEmpty()) return -5;
        State state = edits.removeFirst();
        walls = state.walls;
        split = state.split;
        balance = state.balance;
        return edits.size();
    }

    public int wallCount() {
        return walls.size();
    }

    public int coordinate(int wall, int which) {
        Wall w = walls.get(wall);
        if (w == null) return -1;
        if (!in(which, 0, 3)) return -2;
        return new int[] {w.x1, w.y1, w.x2, w.y2}[which];
    }

    public int kind(int wall) {
        Wall w = walls.get(wall);
        return w == null ? -1 : w.kind + (w.movable ? 10 : 0);
    }

    public int weights() {
        return 10 * split + balance;
    }

    public int appendText(int code) {
        if (!in(code, 32, 126)) return -2;
        if (text.length() == 300) return -3;
        text += (char) code;
        return text.length();
    }

    public int clearText() {
        int before = text.length();
        text = "";
        return before;
    }

    /** The faults of the text, found by a machine that takes one character after the other. */
    private Fault read(TreeMap<Integer, Wall> into) {
        int item = 0;
        String stage = "start"; // start, mark, first, second, separator
        int kind = 0;
        boolean movable = false;
        List<Integer> numbers = new ArrayList<>();
        int begin = 0;
        for (int i = 0; i <= text.length(); i++) {
            if (i == text.length()) {
                return stage.equals("start") ? null : new Fault(1, i, item);
            }
            char c = text.charAt(i);
            boolean digit = "0123456789".indexOf(c) >= 0;
            String separator = numbers.size() == 4 ? ";" : ",";
            if (stage.equals("start")) {
                if ("sgo".indexOf(c) < 0) return new Fault(1, i, item);
                if (item == 12) return new Fault(4, i, item);
                kind = "sgo".indexOf(c);
                movable = false;
                numbers.clear();
                stage = "mark";
            } else if (stage.equals("mark") && c == 'm') {
                movable = true;
                stage = "first";
            } else if (stage.equals("mark") || stage.equals("first")) {
                if (!digit) return new Fault(1, i, item);
                begin = i;
                numbers.add(c - '0');
                stage = "second";
            } else if (stage.equals("second") && digit) {
                int number = 10 * numbers.remove(numbers.size() - 1) + c - '0';
                numbers.add(number);
                if (number > 63) return new Fault(2, begin, item);
                stage = "separator";
            } else if (!separator.equals("" + c)) {
                return new Fault(1, i, item);
            } else if (c == ',') {
                stage = "first";
            } else {
                int x1 = numbers.get(0);
                int y1 = numbers.get(1);
                int x2 = numbers.get(2);
                int y2 = numbers.get(3);
                if (x1 == x2 && y1 == y2) return new Fault(3, i, item);
                into.put(item, new Wall(x1, y1, x2, y2, kind, movable));
                item++;
                stage = "start";
            }
        }
        throw new IllegalStateException();
    }

    public int load() {
        TreeMap<Integer, Wall> read = new TreeMap<>();
        Fault found = read(read);
        if (found != null) {
            fault = found;
            return -9;
        }
        edit();
        walls = read;
        return walls.size();
    }

    public int faultPlace() {
        return fault == null ? -8 : fault.place;
    }

    public int faultKind() {
        return fault == null ? -8 : fault.kind;
    }

    public int faultItem() {
        return fault == null ? -8 : fault.item;
    }

    // the tree

    private Fraction sideAt(Wall wall, Wall of, Fraction position) {
        Fraction x = ZERO.plus(Fraction.of(of.x1, 1)).plus(position.times(Fraction.of(of.x2 - of.x1, 1)));
        Fraction y = ZERO.plus(Fraction.of(of.y1, 1)).plus(position.times(Fraction.of(of.y2 - of.y1, 1)));
        Fraction up = Fraction.of(wall.x2 - wall.x1, 1).times(y.plus(Fraction.of(-wall.y1, 1)));
        Fraction across = Fraction.of(-(wall.y2 - wall.y1), 1).times(x.plus(Fraction.of(-wall.x1, 1)));
        return up.plus(across);
    }

    /** 'o' on the line, 'f' in front, 'b' behind, 'x' crossing. */
    private char compare(Piece piece, int wall) {
        int a = sideAt(walls.get(wall), walls.get(piece.wall), piece.a).sign();
        int b = sideAt(walls.get(wall), walls.get(piece.wall), piece.b).sign();
        if (a == 0 && b == 0) return 'o';
        if (a >= 0 && b >= 0) return 'f';
        if (a <= 0 && b <= 0) return 'b';
        return 'x';
    }

    /** The parts of a piece that crosses the line of a wall: in front, then behind. */
    private Piece[] cut(Piece piece, int wall) {
        Wall of = walls.get(piece.wall);
        long a = walls.get(wall).side(of.x1, of.y1);
        long b = walls.get(wall).side(of.x2, of.y2);
        Fraction at = Fraction.of(a, a - b);
        Piece one = new Piece(piece.wall, piece.a, at);
        Piece two = new Piece(piece.wall, at, piece.b);
        return compare(one, wall) == 'f' ? new Piece[] {one, two} : new Piece[] {two, one};
    }

    private long price(List<Piece> list, int wall, int s, int b) {
        int c = 0;
        int f = 0;
        int g = 0;
        for (Piece piece : list) {
            char place = compare(piece, wall);
            if (place == 'x') c++;
            if (place == 'f') f++;
            if (place == 'b') g++;
        }
        return (long) s * c + (long) b * Math.abs(f - g);
    }

    private void sort(List<Piece> list, int wall, List<Piece> on, List<Piece> front, List<Piece> back) {
        for (Piece piece : list) {
            switch (compare(piece, wall)) {
                case 'o' -> on.add(piece);
                case 'f' -> front.add(piece);
                case 'b' -> back.add(piece);
                default -> {
                    Piece[] parts = cut(piece, wall);
                    front.add(parts[0]);
                    back.add(parts[1]);
                }
            }
        }
    }

    private Subtree grow(List<Piece> list, int s, int b) {
        Subtree made = new Subtree();
        if (list.isEmpty()) return made;
        int best = -1;
        long bestPrice = 0;
        for (int wall = 0; wall < 12; wall++) {
            final int candidate = wall;
            if (list.stream().noneMatch(p -> p.wall == candidate)) continue;
            long price = price(list, wall, s, b);
            if (best < 0 || price < bestPrice) {
                best = wall;
                bestPrice = price;
            }
        }
        List<Piece> front = new ArrayList<>();
        List<Piece> back = new ArrayList<>();
        made.leaf = false;
        made.wall = best;
        sort(list, best, made.list, front, back);
        made.front = grow(front, s, b);
        made.back = grow(back, s, b);
        return made;
    }

    private void insert(Subtree at, Piece piece) {
        if (at.leaf) {
            at.leaf = false;
            at.wall = piece.wall;
            at.list.add(piece);
            at.front = new Subtree();
            at.back = new Subtree();
            return;
        }
        switch (compare(piece, at.wall)) {
            case 'o' -> at.list.add(piece);
            case 'f' -> insert(at.front, piece);
            case 'b' -> insert(at.back, piece);
            default -> {
                Piece[] parts = cut(piece, at.wall);
                insert(at.front, parts[0]);
                insert(at.back, parts[1]);
            }
        }
    }

    private List<Piece> whole(boolean movable) {
        List<Piece> list = new ArrayList<>();
        walls.forEach((number, wall) -> {
            if (wall.movable == movable) list.add(new Piece(number, ZERO, ONE));
        });
        return list;
    }

    private void number(Subtree at, int depth) {
        at.depth = depth;
        if (at.leaf) {
            at.number = leaves.size();
            leaves.add(at);
            return;
        }
        at.number = nodes.size();
        nodes.add(at);
        at.firstPiece = pieces.size();
        for (Piece piece : at.list) {
            pieces.add(piece);
            pieceNodes.add(at);
        }
        number(at.front, depth + 1);
        number(at.back, depth + 1);
    }

    private TreeMap<Integer, Wall> fixedWalls() {
        TreeMap<Integer, Wall> fixed = new TreeMap<>();
        walls.forEach((number, wall) -> {
            if (!wall.movable) fixed.put(number, wall);
        });
        return fixed;
    }

    private void needTree() {
        TreeMap<Integer, Wall> fixed = fixedWalls();
        boolean same = fixed.keySet().equals(builtWalls.keySet())
                && split == builtSplit && balance == builtBalance;
        for (int number : fixed.keySet()) {
            same = same && fixed.get(number).samePlace(builtWalls.get(number));
        }
        if (!same) {
            builds++;
            builtWalls = fixed;
            builtSplit = split;
            builtBalance = balance;
        }
        nodes.clear();
        leaves.clear();
        pieces.clear();
        pieceNodes.clear();
        root = grow(whole(false), split, balance);
        for (Piece piece : whole(true)) insert(root, piece);
        number(root, 0);
    }

    public int nodeCount() {
        needTree();
        return nodes.size();
    }

    public int nodeWall(int node) {
        needTree();
        return in(node, 0, nodes.size() - 1) ? nodes.get(node).wall : -7;
    }

    public int nodeChild(int node, int side) {
        if (!in(side, 0, 1)) return -2;
        needTree();
        if (!in(node, 0, nodes.size() - 1)) return -7;
        Subtree child = side == 0 ? nodes.get(node).front : nodes.get(node).back;
        return child.leaf ? -8 : child.number;
    }

    public int nodeDepth(int node) {
        needTree();
        return in(node, 0, nodes.size() - 1) ? nodes.get(node).depth : -7;
    }

    public int pieceCount() {
        needTree();
        return pieces.size();
    }

    public int pieceWall(int piece) {
        needTree();
        return in(piece, 0, pieces.size() - 1) ? pieces.get(piece).wall : -6;
    }

    public int pieceNode(int piece) {
        needTree();
        return in(piece, 0, pieces.size() - 1) ? pieceNodes.get(piece).number : -6;
    }

    public int pieceBound(int piece, int which) {
        if (!in(which, 0, 3)) return -2;
        needTree();
        if (!in(piece, 0, pieces.size() - 1)) return -6;
        Fraction bound = which < 2 ? pieces.get(piece).a : pieces.get(piece).b;
        return (which % 2 == 0 ? bound.top : bound.bottom).intValueExact();
    }

    public double pieceLength(int piece) {
        needTree();
        if (!in(piece, 0, pieces.size() - 1)) return -6.0;
        Piece p = pieces.get(piece);
        Wall w = walls.get(p.wall);
        int square = (w.x2 - w.x1) * (w.x2 - w.x1) + (w.y2 - w.y1) * (w.y2 - w.y1);
        return (p.b.top.doubleValue() / p.b.bottom.doubleValue()
                - p.a.top.doubleValue() / p.a.bottom.doubleValue()) * Math.sqrt((double) square);
    }

    public int locate(int x, int y) {
        if (!point(x, y)) return -2;
        needTree();
        Subtree at = root;
        while (!at.leaf) at = walls.get(at.wall).side(x, y) >= 0 ? at.front : at.back;
        return at.number;
    }

    public double meanLeafDepth() {
        needTree();
        double sum = 0;
        for (Subtree leaf : leaves) sum += leaf.depth;
        return sum / leaves.size();
    }

    public int buildCount() {
        return builds;
    }

    // drawing

    private void draw(Subtree at, int x, int y, List<Integer> order) {
        if (at.leaf) return;
        boolean near = walls.get(at.wall).side(x, y) >= 0;
        draw(near ? at.back : at.front, x, y, order);
        for (int i = 0; i < at.list.size(); i++) {
            if (walls.get(at.list.get(i).wall).drawn(x, y)) order.add(at.firstPiece + i);
        }
        draw(near ? at.front : at.back, x, y, order);
    }

    private List<Integer> order(int x, int y) {
        needTree();
        List<Integer> order = new ArrayList<>();
        draw(root, x, y, order);
        return order;
    }

    public int drawCount(int x, int y) {
        return point(x, y) ? order(x, y).size() : -2;
    }

    public int drawPiece(int x, int y, int index) {
        if (!point(x, y) || index < 0) return -2;
        List<Integer> order = order(x, y);
        return index < order.size() ? order.get(index) : -8;
    }

    private Hit hit(int x, int y, int dx, int dy, Wall w) {
        // s * dx - t * wx = w.x1 - x and s * dy - t * wy = w.y1 - y, solved by Cramer's rule
        long wx = w.x2 - w.x1;
        long wy = w.y2 - w.y1;
        long rx = w.x1 - x;
        long ry = w.y1 - y;
        long whole = dx * -wy - -wx * dy;
        if (whole == 0) return null;
        Fraction s = Fraction.of(rx * -wy - -wx * ry, whole);
        Fraction t = Fraction.of(dx * ry - dy * rx, whole);
        if (s.sign() <= 0 || t.sign() < 0 || t.compareTo(ONE) > 0) return null;
        return new Hit(s, t);
    }

    private static int columnX(int dx, int dy, int c) {
        return 32 * dx - (31 - 2 * c) * dy;
    }

    private static int columnY(int dx, int dy, int c) {
        return 32 * dy + (31 - 2 * c) * dx;
    }

    private boolean covers(int number, int x, int y, int dx, int dy, int column) {
        Piece piece = pieces.get(number);
        Wall w = walls.get(piece.wall);
        if (!w.drawn(x, y)) return false;
        Hit hit = hit(x, y, columnX(dx, dy, column), columnY(dx, dy, column), w);
        return hit != null && hit.position.compareTo(piece.a) >= 0
                && hit.position.compareTo(piece.b) <= 0;
    }

    public int paintCount(int x, int y, int dx, int dy) {
        if (!picture(x, y, dx, dy)) return -2;
        int sum = 0;
        for (int piece : order(x, y)) {
            for (int column = 0; column < 32; column++) {
                if (covers(piece, x, y, dx, dy, column)) sum++;
            }
        }
        return sum;
    }

    public int paintedPiece(int x, int y, int dx, int dy, int column) {
        if (!picture(x, y, dx, dy) || !in(column, 0, 31)) return -2;
        int painted = -8;
        for (int piece : order(x, y)) {
            if (walls.get(pieces.get(piece).wall).kind == 1) continue;
            if (covers(piece, x, y, dx, dy, column)) painted = piece;
        }
        return painted;
    }

    // rays

    private int firstWall(int x, int y, int dx, int dy) {
        int first = -8;
        Fraction least = null;
        for (int wall : walls.keySet()) {
            if (!walls.get(wall).opaque(x, y)) continue;
            Hit hit = hit(x, y, dx, dy, walls.get(wall));
            if (hit != null && (least == null || hit.distance.compareTo(least) < 0)) {
                first = wall;
                least = hit.distance;
            }
        }
        return first;
    }

    private Fraction firstDistance(int x, int y, int dx, int dy) {
        int first = firstWall(x, y, dx, dy);
        return first < 0 ? null : hit(x, y, dx, dy, walls.get(first)).distance;
    }

    private boolean blocked(int x, int y, int dx, int dy) {
        Fraction first = firstDistance(x, y, dx, dy);
        return first != null && first.compareTo(ONE) <= 0;
    }

    public int blocker(int x1, int y1, int x2, int y2) {
        if (!point(x1, y1) || !point(x2, y2) || (x1 == x2 && y1 == y2)) return -2;
        return blocked(x1, y1, x2 - x1, y2 - y1) ? firstWall(x1, y1, x2 - x1, y2 - y1) : -8;
    }

    public int columnWall(int x, int y, int dx, int dy, int column) {
        if (!picture(x, y, dx, dy) || !in(column, 0, 31)) return -2;
        return firstWall(x, y, columnX(dx, dy, column), columnY(dx, dy, column));
    }

    public int columnDistance(int x, int y, int dx, int dy, int column, int part) {
        if (!picture(x, y, dx, dy) || !in(column, 0, 31) || !in(part, 0, 1)) return -2;
        Fraction first = firstDistance(x, y, columnX(dx, dy, column), columnY(dx, dy, column));
        if (first == null) return -8;
        return (part == 0 ? first.top : first.bottom).intValueExact();
    }

    public int paneCount(int x, int y, int dx, int dy, int column) {
        if (!picture(x, y, dx, dy) || !in(column, 0, 31)) return -2;
        int rx = columnX(dx, dy, column);
        int ry = columnY(dx, dy, column);
        Fraction first = firstDistance(x, y, rx, ry);
        int panes = 0;
        for (Wall w : walls.values()) {
            Hit hit = w.kind == 1 ? hit(x, y, rx, ry, w) : null;
            if (hit != null && (first == null || hit.distance.compareTo(first) < 0)) panes++;
        }
        return panes;
    }

    public int seenColumns(int x, int y, int dx, int dy, int wall) {
        if (!picture(x, y, dx, dy)) return -2;
        if (!walls.containsKey(wall)) return -1;
        int seen = 0;
        for (int c = 0; c < 32; c++) {
            if (columnWall(x, y, dx, dy, c) == wall) seen++;
        }
        return seen;
    }

    public int seenPoints(int x, int y) {
        if (!point(x, y)) return -2;
        int seen = 0;
        for (int px = 0; px < 64; px += 8) {
            for (int py = 0; py < 64; py += 8) {
                if ((px != x || py != y) && !blocked(x, y, px - x, py - y)) seen++;
            }
        }
        return seen;
    }

    public int lookout(int which) {
        if (!in(which, 0, 1)) return -2;
        int best = -1;
        int most = -1;
        for (int x = 0; x < 64; x += 8) {
            for (int y = 0; y < 64; y += 8) {
                int seen = seenPoints(x, y);
                if (seen > most) {
                    best = 64 * x + y;
                    most = seen;
                }
            }
        }
        return which == 0 ? best : most;
    }

    // walking and distances

    private int moved(int x, int y, int dx, int dy) {
        int[][] moves = {{dx, dy}, {dx, 0}, {0, dy}};
        for (int[] move : moves) {
            if (move[0] == 0 && move[1] == 0) continue;
            if (!point(x + move[0], y + move[1])) continue;
            if (blocked(x, y, move[0], move[1])) continue;
            return 64 * (x + move[0]) + y + move[1];
        }
        return 64 * x + y;
    }

    public int walk(int x, int y, int dx, int dy) {
        if (!point(x, y) || !in(dx, -8, 8) || !in(dy, -8, 8)) return -2;
        return moved(x, y, dx, dy);
    }

    public int wander(int x, int y, int state, int steps) {
        if (!point(x, y) || state < 0 || !in(steps, 1, 60)) return -2;
        BigInteger s = BigInteger.valueOf(state);
        int px = x;
        int py = y;
        for (int step = 0; step < steps; step++) {
            int[] d = new int[2];
            for (int i = 0; i < 2; i++) {
                s = s.multiply(BigInteger.valueOf(1103515245)).add(BigInteger.valueOf(12345))
                        .mod(BigInteger.TWO.pow(31));
                d[i] = (int) (s.longValue() / 65536 % 7) - 3;
            }
            int to = moved(px, py, d[0], d[1]);
            px = to / 64;
            py = to % 64;
        }
        return 64 * px + py;
    }

    private Fraction squaredDistance(int x, int y, Wall w) {
        long wx = w.x2 - w.x1;
        long wy = w.y2 - w.y1;
        Fraction foot = Fraction.of(wx * (x - w.x1) + wy * (y - w.y1), wx * wx + wy * wy);
        if (foot.sign() < 0) foot = ZERO;
        if (foot.compareTo(ONE) > 0) foot = ONE;
        Fraction gapX = Fraction.of(w.x1 - x, 1).plus(foot.times(Fraction.of(wx, 1)));
        Fraction gapY = Fraction.of(w.y1 - y, 1).plus(foot.times(Fraction.of(wy, 1)));
        return gapX.times(gapX).plus(gapY.times(gapY));
    }

    public int nearestWall(int x, int y) {
        if (!point(x, y)) return -2;
        int nearest = -8;
        Fraction least = null;
        for (int wall : walls.keySet()) {
            Fraction d = squaredDistance(x, y, walls.get(wall));
            if (least == null || d.compareTo(least) < 0) {
                least = d;
                nearest = wall;
            }
        }
        return nearest;
    }

    public long clearance(int x, int y, int part) {
        if (!point(x, y) || !in(part, 0, 1)) return -2;
        int wall = nearestWall(x, y);
        if (wall < 0) return -8;
        Fraction d = squaredDistance(x, y, walls.get(wall));
        return (part == 0 ? d.top : d.bottom).longValueExact();
    }

    // other trees

    private static int count(Subtree at) {
        return at.leaf ? 0 : at.list.size() + count(at.front) + count(at.back);
    }

    private static int height(Subtree at) {
        return at.leaf ? 0 : 1 + Math.max(height(at.front), height(at.back));
    }

    public int piecesWith(int s, int b) {
        if (!in(s, 0, 9) || !in(b, 0, 9)) return -2;
        return count(grow(whole(false), s, b));
    }

    public int bestWeights() {
        int best = -1;
        int[] least = null;
        for (int code = 0; code < 100; code++) {
            if (code / 10 > 3 || code % 10 > 3) continue;
            Subtree tree = grow(whole(false), code / 10, code % 10);
            int[] worth = {count(tree), height(tree)};
            if (least == null || worth[0] < least[0] || (worth[0] == least[0] && worth[1] < least[1])) {
                least = worth;
                best = code;
            }
        }
        return best;
    }

    private int free(List<Piece> list) {
        int best = 0;
        boolean any = false;
        for (int wall = 0; wall < 12; wall++) {
            final int candidate = wall;
            if (list.stream().noneMatch(p -> p.wall == candidate)) continue;
            int total = freeWith(list, wall);
            best = any ? Math.min(best, total) : total;
            any = true;
        }
        return best;
    }

    private int freeWith(List<Piece> list, int wall) {
        List<Piece> on = new ArrayList<>();
        List<Piece> front = new ArrayList<>();
        List<Piece> back = new ArrayList<>();
        sort(list, wall, on, front, back);
        return on.size() + free(front) + free(back);
    }

    public int leastPieces() {
        List<Piece> list = whole(false);
        return list.size() > 5 ? -5 : free(list);
    }

    public int bestRoot() {
        List<Piece> list = whole(false);
        if (list.size() > 5) return -5;
        int least = free(list);
        for (Piece piece : list) {
            if (freeWith(list, piece.wall) == least) return piece.wall;
        }
        return -8;
    }
}
