import java.util.ArrayList;
import java.util.Arrays;
import java.util.HashMap;
import java.util.HashSet;
import java.util.List;
import java.util.Map;
import java.util.Set;
import java.util.TreeSet;
import java.util.regex.Matcher;
import java.util.regex.Pattern;

/**
 * The document once more, written with other means and without a thought of speed, so that random runs can be
 * compared: cells are sets of points, ways are found by trying all, placings on the wall are kept for the bits
 * that were put or have a word alone, and faults are found by asking a regular expression whether more may come.
 */
public final class PlainWall {
    static final int NONE = -1, BAD = -2, STATE = -3, FULL = -4, BELOW = -100000;

    record Point(int x, int y) {
        Point turn(int t) {
            Point p = this;
            for (int k = 0; k < t; k++) {
                p = new Point(-p.y, p.x);
            }
            return p;
        }
    }

    record Put(int t, int x, int y) {
        Point corner(Point p) {
            Point q = p.turn(t);
            return new Point(q.x + x, q.y + y);
        }

        /** A cell by its middle, in halves. */
        Point cell(Point p) {
            Point q = new Point(2 * p.x + 1, 2 * p.y + 1).turn(t);
            return new Point((q.x + 2 * x - 1) / 2, (q.y + 2 * y - 1) / 2);
        }

        Put times(Put inner) {
            Point p = corner(new Point(inner.x, inner.y));
            return new Put((t + inner.t) % 4, p.x, p.y);
        }

        Put back() {
            Point p = new Point(-x, -y).turn((4 - t) % 4);
            return new Put((4 - t) % 4, p.x, p.y);
        }
    }

    static final Put HERE = new Put(0, 0, 0);

    static final class Piece {
        List<Point> corners = new ArrayList<>();
        List<Integer> colours = new ArrayList<>();
        List<Point> spots = new ArrayList<>();
        List<Integer> spotColours = new ArrayList<>();
        Set<Point> cells = new HashSet<>();
        int thick, straw, plaster;

        Set<Point> at(Put put) {
            Set<Point> moved = new HashSet<>();
            for (Point c : cells) {
                Point m = put.cell(c);
                moved.add(new Point(m.x, m.y));
            }
            return moved;
        }

        Point begin(int k) {
            return corners.get(k);
        }

        Point end(int k) {
            return corners.get((k + 1) % corners.size());
        }
    }

    record Fit(int score, int bit, int edge) { }

    record Join(int a, int ea, int b, int eb, Put how) { }

    private final StringBuilder tape = new StringBuilder();
    private final List<Piece> pieces = new ArrayList<>();
    private int tolerance;
    private final int[][] like = new int[10][10];
    private final List<Join> joins = new ArrayList<>();
    private final Set<Integer> undone = new HashSet<>();
    private final Map<Integer, Put> words = new HashMap<>();
    private final Map<Integer, Put> puts = new HashMap<>();
    private int[] told;
    private List<Integer> toldJoins = new ArrayList<>();
    private String[] photo;
    private int photoX, photoY, doubt;
    private Map<Integer, Put> arranged = new HashMap<>();
    private List<Integer> answered = new ArrayList<>();
    private final List<int[]> entries = new ArrayList<>();
    private final int[][] skills = new int[6][10];

    public PlainWall() {
        for (int k = 0; k < 10; k++) {
            like[k][k] = 9;
        }
    }

    // ---- bits

    public int feed(long w, int n) {
        if (n < 1 || n > 8) {
            return BAD;
        }
        if (tape.length() + n > 240) {
            return FULL;
        }
        for (int k = n - 1; k >= 0; k--) {
            tape.append((char) (w >> 8 * k & 255));
        }
        return tape.length();
    }

    private static final String NUMBER = "(?:0|-?(?:1[0-9]|20|[1-9]))";
    private static final Pattern BIT = Pattern.compile(
        NUMBER + "," + NUMBER + ":[0-9](?:;" + NUMBER + "," + NUMBER + ":[0-9]){2,7}"
        + "(?:\\|" + NUMBER + "," + NUMBER + "=[0-9]){0,5}", Pattern.DOTALL);

    private static boolean mayGoOn(Pattern pattern, String text) {
        Matcher m = pattern.matcher(text);
        return m.matches() || m.hitEnd();
    }

    private static int faultOf(List<Pattern> patterns, String text) {
        for (int k = 1; k <= text.length(); k++) {
            String begin = text.substring(0, k);
            if (patterns.stream().noneMatch(p -> mayGoOn(p, begin))) {
                return k - 1;
            }
        }
        return patterns.stream().anyMatch(p -> p.matcher(text).matches()) ? -1 : text.length();
    }

    private String takeTape() {
        String text = tape.toString();
        tape.setLength(0);
        return text;
    }

    public int bit(int thick, int straw, int plaster) {
        if (thick < 1 || thick > 99 || straw < -1 || straw > 3 || plaster < 0 || plaster > 9) {
            return BAD;
        }
        if (pieces.size() == 30) {
            return FULL;
        }
        String text = takeTape();
        int fault = faultOf(List.of(BIT), text);
        if (fault >= 0) {
            return -10 - fault;
        }
        Piece piece = new Piece();
        piece.thick = thick;
        piece.straw = straw;
        piece.plaster = plaster;
        String[] parts = text.split("\\|");
        for (String corner : parts[0].split(";")) {
            String[] n = corner.split("[,:]");
            piece.corners.add(new Point(Integer.parseInt(n[0]), Integer.parseInt(n[1])));
            piece.colours.add(Integer.parseInt(n[2]));
        }
        for (int k = 1; k < parts.length; k++) {
            String[] n = parts[k].split("[,=]");
            piece.spots.add(new Point(Integer.parseInt(n[0]), Integer.parseInt(n[1])));
            piece.spotColours.add(Integer.parseInt(n[2]));
        }
        if (!isRing(piece)) {
            return -5;
        }
        for (int x = -25; x < 25; x++) {
            for (int y = -25; y < 25; y++) {
                if (within(piece, x + 0.5, y + 0.5)) {
                    piece.cells.add(new Point(x, y));
                }
            }
        }
        if (!piece.cells.containsAll(piece.spots) || new HashSet<>(piece.spots).size() < piece.spots.size()) {
            return -6;
        }
        pieces.add(piece);
        return pieces.size() - 1;
    }

    /** By distances between segments, in floating numbers; coordinates are small and whole. */
    private static boolean isRing(Piece p) {
        int n = p.corners.size();
        for (int i = 0; i < n; i++) {
            if (p.begin(i).equals(p.end(i))) {
                return false;
            }
        }
        for (int i = 0; i < n; i++) {
            for (int k = 0; k < n; k++) {
                if (i == k) {
                    continue;
                }
                boolean next = (i + 1) % n == k;
                boolean before = (k + 1) % n == i;
                if (!next && !before && distance(p, i, k) < 1e-9) {
                    return false;
                }
                // the far end of a neighbour must not lie on this edge
                if (next && fromSegment(p.end(k), p.begin(i), p.end(i)) < 1e-9) {
                    return false;
                }
                if (before && fromSegment(p.begin(k), p.begin(i), p.end(i)) < 1e-9) {
                    return false;
                }
            }
        }
        return area(p) > 0;
    }

    private static int area(Piece p) {
        int sum = 0;
        for (int k = 0; k < p.corners.size(); k++) {
            sum += (p.end(k).x - p.begin(k).x) * (p.end(k).y + p.begin(k).y);
        }
        return -sum;
    }

    private static double distance(Piece p, int i, int k) {
        Point a = p.begin(i), b = p.end(i), c = p.begin(k), d = p.end(k);
        double det = (double) (b.x - a.x) * (d.y - c.y) - (double) (b.y - a.y) * (d.x - c.x);
        if (det != 0) {
            double s = ((double) (c.x - a.x) * (d.y - c.y) - (double) (c.y - a.y) * (d.x - c.x)) / det;
            double t = ((double) (c.x - a.x) * (b.y - a.y) - (double) (c.y - a.y) * (b.x - a.x)) / det;
            if (s > -1e-12 && s < 1 + 1e-12 && t > -1e-12 && t < 1 + 1e-12) {
                return 0;
            }
        }
        return Math.min(Math.min(fromSegment(a, c, d), fromSegment(b, c, d)),
            Math.min(fromSegment(c, a, b), fromSegment(d, a, b)));
    }

    private static double fromSegment(Point p, Point a, Point b) {
        return fromSegment(p.x, p.y, a, b);
    }

    private static double fromSegment(double x, double y, Point a, Point b) {
        double dx = b.x - a.x, dy = b.y - a.y;
        double s = ((x - a.x) * dx + (y - a.y) * dy) / (dx * dx + dy * dy);
        s = Math.max(0, Math.min(1, s));
        return Math.hypot(x - a.x - s * dx, y - a.y - s * dy);
    }

    /** By the sum of angles. */
    private static boolean within(Piece p, double x, double y) {
        double sum = 0;
        for (int k = 0; k < p.corners.size(); k++) {
            Point a = p.begin(k), b = p.end(k);
            if (fromSegment(x, y, a, b) < 1e-9) {
                return false;
            }
            double ax = a.x - x, ay = a.y - y, bx = b.x - x, by = b.y - y;
            sum += Math.atan2(ax * by - ay * bx, ax * bx + ay * by);
        }
        return sum > 3;
    }

    /** Whether the ring that a text tells of has a cell; for those who make up bits. */
    static boolean isCell(String ring, int x, int y) {
        Piece piece = new Piece();
        for (String corner : ring.split(";")) {
            String[] n = corner.split("[,:]");
            piece.corners.add(new Point(Integer.parseInt(n[0]), Integer.parseInt(n[1])));
        }
        return within(piece, x + 0.5, y + 0.5);
    }

    public int about(int bit, int what) {
        if (!is(bit) || what < 0 || what > 6) {
            return BELOW;
        }
        Piece p = pieces.get(bit);
        return new int[] {p.corners.size(), area(p), p.cells.size(), p.spots.size(), p.thick, p.straw, p.plaster}[what];
    }

    public int corner(int bit, int k, int what) {
        if (!isEdge(bit, k) || what < 0 || what > 2) {
            return BELOW;
        }
        Piece p = pieces.get(bit);
        return new int[] {p.begin(k).x, p.begin(k).y, p.colours.get(k)}[what];
    }

    public int overlap(int a, int b, int t, int x, int y) {
        if (!is(a) || !is(b)) {
            return NONE;
        }
        if (a == b || badPut(t, x, y)) {
            return BAD;
        }
        return common(a, HERE, b, new Put(t, x, y));
    }

    private int common(int a, Put pa, int b, Put pb) {
        Set<Point> both = pieces.get(a).at(pa);
        both.retainAll(pieces.get(b).at(pb));
        return both.size();
    }

    public int tolerance(int n) {
        if (n < 0 || n > 30) {
            return BAD;
        }
        int was = tolerance;
        tolerance = n;
        return was;
    }

    private boolean is(int bit) {
        return bit >= 0 && bit < pieces.size();
    }

    private boolean isEdge(int bit, int edge) {
        return is(bit) && edge >= 0 && edge < pieces.get(bit).corners.size();
    }

    private static boolean badPut(int t, int x, int y) {
        return t < 0 || t > 3 || x < -500 || x > 500 || y < -500 || y > 500;
    }

    // ---- fits

    public int likeness(int a, int b, int n) {
        if (a < 0 || a > 9 || b < 0 || b > 9) {
            return NONE;
        }
        if (n < 0 || n > 9) {
            return BAD;
        }
        int was = like[a][b];
        like[a][b] = n;
        like[b][a] = n;
        return was;
    }

    /** How B is placed by a fit, or null. */
    private Put fitting(int a, int ea, int b, int eb) {
        Piece p = pieces.get(a), q = pieces.get(b);
        if (a == b || p.plaster != q.plaster) {
            return null;
        }
        for (int t = 0; t < 4; t++) {
            Point begin = q.begin(eb).turn(t), end = q.end(eb).turn(t);
            Put put = new Put(t, p.end(ea).x - begin.x, p.end(ea).y - begin.y);
            if (end.x + put.x == p.begin(ea).x && end.y + put.y == p.begin(ea).y) {
                return common(a, HERE, b, put) <= tolerance ? put : null;
            }
        }
        return null;
    }

    private int scoreOf(int a, int ea, int b, int eb, Put put) {
        Piece p = pieces.get(a), q = pieces.get(b);
        int sum = 2 * like[p.colours.get(ea)][q.colours.get(eb)];
        int differs = Math.abs(p.thick - q.thick);
        sum += differs > 9 ? 0 : 9 - differs;
        if (p.straw != -1 && q.straw != -1 && (q.straw + 2 * put.t) % 4 == p.straw) {
            sum += 5;
        }
        return sum;
    }

    private List<Fit> fitsOf(int a, int ea) {
        List<Fit> list = new ArrayList<>();
        for (int b = 0; b < pieces.size(); b++) {
            for (int eb = 0; eb < pieces.get(b).corners.size(); eb++) {
                Put put = fitting(a, ea, b, eb);
                if (put != null) {
                    list.add(new Fit(scoreOf(a, ea, b, eb, put), b, eb));
                }
            }
        }
        // the sort is stable
        list.sort((f, g) -> g.score - f.score);
        return list;
    }

    private int refusal(int a, int ea, int b, int eb) {
        if (!isEdge(a, ea) || !isEdge(b, eb)) {
            return NONE;
        }
        return a == b ? BAD : 0;
    }

    public int score(int a, int edge, int b, int other) {
        int refusal = refusal(a, edge, b, other);
        if (refusal != 0) {
            return refusal;
        }
        Put put = fitting(a, edge, b, other);
        return put == null ? STATE : scoreOf(a, edge, b, other, put);
    }

    public int turned(int a, int edge, int b, int other, int what) {
        if (refusal(a, edge, b, other) != 0) {
            return BELOW;
        }
        return part(fitting(a, edge, b, other), what);
    }

    private static int part(Put put, int what) {
        if (put == null || what < 0 || what > 2) {
            return BELOW;
        }
        return what == 0 ? put.t : what == 1 ? put.x : put.y;
    }

    public int fits(int a, int edge) {
        return isEdge(a, edge) ? fitsOf(a, edge).size() : NONE;
    }

    public int fit(int a, int edge, int i) {
        if (!isEdge(a, edge)) {
            return NONE;
        }
        List<Fit> list = fitsOf(a, edge);
        return i < 0 || i >= list.size() ? NONE : 10 * list.get(i).bit + list.get(i).edge;
    }

    public int rival(int a, int edge, int b, int other) {
        int refusal = refusal(a, edge, b, other);
        if (refusal != 0) {
            return refusal;
        }
        Put put = fitting(a, edge, b, other);
        if (put == null) {
            return STATE;
        }
        int score = scoreOf(a, edge, b, other, put);
        for (Fit f : fitsOf(a, edge)) {
            if (f.score >= score && !(f.bit == b && f.edge == other)) {
                return 1000 * a + 10 * f.bit + f.edge;
            }
        }
        for (Fit f : fitsOf(b, other)) {
            if (f.score >= score && !(f.bit == a && f.edge == edge)) {
                return 1000 * b + 10 * f.bit + f.edge;
            }
        }
        return -5;
    }

    // ---- joins

    private boolean there(int join) {
        return join >= 0 && join < joins.size() && !undone.contains(join);
    }

    private List<Integer> thereJoins() {
        List<Integer> list = new ArrayList<>();
        for (int j = 0; j < joins.size(); j++) {
            if (there(j)) {
                list.add(j);
            }
        }
        return list;
    }

    /** Each bit of the group, placed against this one. */
    private Map<Integer, Put> groupOf(int bit) {
        Map<Integer, Put> group = new HashMap<>();
        group.put(bit, HERE);
        boolean grew = true;
        while (grew) {
            grew = false;
            for (int j : thereJoins()) {
                Join join = joins.get(j);
                if (group.containsKey(join.a) && !group.containsKey(join.b)) {
                    group.put(join.b, group.get(join.a).times(join.how));
                    grew = true;
                } else if (group.containsKey(join.b) && !group.containsKey(join.a)) {
                    group.put(join.a, group.get(join.b).times(join.how.back()));
                    grew = true;
                }
            }
        }
        return group;
    }

    /** All simple ways, the best of them. */
    private List<Integer> way(int from, int to, List<Integer> allowed) {
        List<List<Integer>> found = new ArrayList<>();
        walk(from, to, allowed, new HashSet<>(Set.of(from)), new ArrayList<>(), found);
        found.sort((p, q) -> {
            if (p.size() != q.size()) {
                return p.size() - q.size();
            }
            for (int k = 0; k < p.size(); k++) {
                if (!p.get(k).equals(q.get(k))) {
                    return p.get(k) - q.get(k);
                }
            }
            return 0;
        });
        return found.isEmpty() ? null : found.get(0);
    }

    private void walk(int from, int to, List<Integer> allowed, Set<Integer> seen, List<Integer> so,
        List<List<Integer>> found) {
        if (from == to) {
            found.add(new ArrayList<>(so));
            return;
        }
        for (int j : allowed) {
            Join join = joins.get(j);
            int next = join.a == from ? join.b : join.b == from ? join.a : -1;
            if (next >= 0 && seen.add(next)) {
                so.add(j);
                walk(next, to, allowed, seen, so, found);
                so.remove(so.size() - 1);
                seen.remove(next);
            }
        }
    }

    private int tell(int kind, int first, int second, List<Integer> ways) {
        told = new int[] {kind, ways.size(), first, second};
        toldJoins = ways;
        return -10 - kind;
    }

    private static List<Integer> both(List<Integer> a, List<Integer> b) {
        List<Integer> all = new ArrayList<>(a);
        all.addAll(b);
        return all;
    }

    private Integer anchor(Set<Integer> group) {
        for (Map<Integer, Put> marks : List.of(words, puts)) {
            for (int bit : new TreeSet<>(group)) {
                if (marks.containsKey(bit)) {
                    return bit;
                }
            }
        }
        return null;
    }

    /** Where a bit is on the wall, or null. */
    private Put onWall(int bit) {
        Map<Integer, Put> group = groupOf(bit);
        Integer by = anchor(group.keySet());
        if (by == null) {
            return null;
        }
        Put at = words.containsKey(by) ? words.get(by) : puts.get(by);
        return at.times(group.get(by).back());
    }

    public int join(int a, int edge, int b, int other) {
        int refusal = refusal(a, edge, b, other);
        if (refusal != 0) {
            return refusal;
        }
        Put how = fitting(a, edge, b, other);
        if (how == null) {
            return STATE;
        }
        for (int j : thereJoins()) {
            Join join = joins.get(j);
            if (join.a == a && join.ea == edge || join.b == a && join.eb == edge
                || join.a == b && join.ea == other || join.b == b && join.eb == other) {
                return STATE;
            }
        }
        if (joins.size() == 60) {
            return FULL;
        }
        Map<Integer, Put> ga = groupOf(a), gb = groupOf(b);
        if (ga.containsKey(b)) {
            if (!ga.get(b).equals(how)) {
                return tell(1, a, b, way(a, b, thereJoins()));
            }
        } else {
            int clash = clashOf(a, b, how, ga, gb);
            if (clash != 0) {
                return clash;
            }
        }
        joins.add(new Join(a, edge, b, other, how));
        return joins.size() - 1;
    }

    private int clashOf(int a, int b, Put how, Map<Integer, Put> ga, Map<Integer, Put> gb) {
        for (int i : new TreeSet<>(ga.keySet())) {
            for (int k : new TreeSet<>(gb.keySet())) {
                if (common(i, ga.get(i), k, how.times(gb.get(k))) > tolerance) {
                    return tell(2, i, k, both(way(i, a, thereJoins()), way(b, k, thereJoins())));
                }
            }
        }
        Put wa = onWall(a), wb = onWall(b);
        if (wa != null && wb != null && !wa.times(how).equals(wb)) {
            int i = anchor(ga.keySet()), k = anchor(gb.keySet());
            return tell(3, i, k, both(way(i, a, thereJoins()), way(b, k, thereJoins())));
        }
        if (wa != null && wb == null) {
            return hits(gb, wa.times(how));
        }
        if (wa == null && wb != null) {
            return hits(ga, wb.times(how.back()));
        }
        return 0;
    }

    /** CLASH 5 of a group that is told against one of its bits, which is placed so. */
    private int hits(Map<Integer, Put> group, Put at) {
        for (int i : new TreeSet<>(group.keySet())) {
            for (int k = 0; k < pieces.size(); k++) {
                Put other = group.containsKey(k) ? null : onWall(k);
                if (other != null && common(i, at.times(group.get(i)), k, other) > tolerance) {
                    return tell(5, i, k, List.of());
                }
            }
        }
        return 0;
    }

    public int undo(int join) {
        if (!there(join)) {
            return NONE;
        }
        undone.add(join);
        Set<Integer> all = new HashSet<>(groupOf(joins.get(join).a).keySet());
        all.addAll(groupOf(joins.get(join).b).keySet());
        return all.size();
    }

    private boolean isBest(int j) {
        Join join = joins.get(j);
        return rival(join.a, join.ea, join.b, join.eb) == -5;
    }

    public int joined(int join, int what) {
        if (!there(join) || what < 0 || what > 4) {
            return NONE;
        }
        Join j = joins.get(join);
        return new int[] {j.a, j.ea, j.b, j.eb, isBest(join) ? 1 : 0}[what];
    }

    public int group(int bit, int what) {
        if (!is(bit) || what < 0 || what > 2) {
            return NONE;
        }
        Set<Integer> group = groupOf(bit).keySet();
        if (what == 0) {
            return new TreeSet<>(group).first();
        }
        if (what == 1) {
            return group.size();
        }
        return (int) thereJoins().stream().filter(j -> group.contains(joins.get(j).a)).count();
    }

    public int clash(int what) {
        if (told == null) {
            return NONE;
        }
        if (what >= 0 && what <= 3) {
            return told[what];
        }
        return what >= 10 && what < 10 + toldJoins.size() ? toldJoins.get(what - 10) : NONE;
    }

    // ---- the wall

    private boolean groupHasWord(Map<Integer, Put> group) {
        return group.keySet().stream().anyMatch(words::containsKey);
    }

    public int word(int bit, int t, int x, int y) {
        if (!is(bit)) {
            return NONE;
        }
        if (badPut(t, x, y)) {
            return BAD;
        }
        Put wanted = new Put(t, x, y);
        Map<Integer, Put> group = groupOf(bit);
        for (int k : new TreeSet<>(group.keySet())) {
            if (k != bit && words.containsKey(k) && !words.get(k).equals(wanted.times(group.get(k)))) {
                return tell(4, k, bit, way(k, bit, thereJoins()));
            }
        }
        int clash = hits(group, wanted);
        if (clash != 0) {
            return clash;
        }
        puts.keySet().removeAll(group.keySet());
        words.put(bit, wanted);
        return group.size();
    }

    public int unsay(int bit) {
        if (!is(bit)) {
            return NONE;
        }
        if (!words.containsKey(bit)) {
            return STATE;
        }
        Put was = words.remove(bit);
        Map<Integer, Put> group = groupOf(bit);
        if (!groupHasWord(group)) {
            puts.keySet().removeAll(group.keySet());
            puts.put(bit, was);
        }
        return 1;
    }

    public int put(int bit, int t, int x, int y) {
        if (!is(bit)) {
            return NONE;
        }
        if (badPut(t, x, y)) {
            return BAD;
        }
        Map<Integer, Put> group = groupOf(bit);
        if (groupHasWord(group)) {
            return STATE;
        }
        int clash = hits(group, new Put(t, x, y));
        if (clash != 0) {
            return clash;
        }
        puts.keySet().removeAll(group.keySet());
        puts.put(bit, new Put(t, x, y));
        return group.size();
    }

    public int lift(int bit) {
        if (!is(bit)) {
            return NONE;
        }
        Map<Integer, Put> group = groupOf(bit);
        if (onWall(bit) == null || groupHasWord(group)) {
            return STATE;
        }
        puts.keySet().removeAll(group.keySet());
        return group.size();
    }

    public int placed(int bit, int what) {
        if (!is(bit) || onWall(bit) == null) {
            return BELOW;
        }
        if (what == 3) {
            return words.containsKey(bit) ? 2 : groupHasWord(groupOf(bit)) ? 1 : 0;
        }
        return part(onWall(bit), what);
    }

    public int at(int x, int y) {
        for (int bit = 0; bit < pieces.size(); bit++) {
            Put put = onWall(bit);
            if (put != null && pieces.get(bit).at(put).contains(new Point(x, y))) {
                return bit;
            }
        }
        return NONE;
    }

    private List<Integer> proofOf(int bit) {
        List<Integer> best = thereJoins().stream().filter(this::isBest).toList();
        List<Integer> found = null;
        for (int k : new TreeSet<>(words.keySet())) {
            List<Integer> way = way(k, bit, best);
            if (way != null && (found == null || way.size() < found.size())) {
                found = way;
            }
        }
        return found;
    }

    public int proof(int bit) {
        if (!is(bit)) {
            return NONE;
        }
        List<Integer> proof = proofOf(bit);
        return proof == null ? STATE : proof.size();
    }

    public int reason(int bit, int i) {
        List<Integer> proof = is(bit) ? proofOf(bit) : null;
        return proof == null || i < 0 || i >= proof.size() ? NONE : proof.get(i);
    }

    // ---- photographs, arrangements

    private static final List<Pattern> PHOTOS = new ArrayList<>();

    static {
        for (int w = 1; w <= 16; w++) {
            PHOTOS.add(Pattern.compile("[0-9.]{" + w + "}(?:/[0-9.]{" + w + "}){0,15}", Pattern.DOTALL));
        }
    }

    public int photograph(int x, int y, int doubt) {
        if (x < -500 || x > 500 || y < -500 || y > 500 || doubt < 0 || doubt > 3) {
            return BAD;
        }
        String text = takeTape();
        int fault = faultOf(PHOTOS, text);
        if (fault >= 0) {
            return -10 - fault;
        }
        photo = text.split("/");
        photoX = x;
        photoY = y;
        this.doubt = doubt;
        return (int) text.chars().filter(c -> c >= '0' && c <= '9').distinct().count();
    }

    private int colourAt(int x, int y) {
        int row = photo.length - 1 - (y - photoY);
        if (row < 0 || row >= photo.length || x < photoX || x >= photoX + photo[0].length()) {
            return -2;
        }
        char c = photo[row].charAt(x - photoX);
        return c == '.' ? -1 : c - '0';
    }

    private int agreeing(Piece p, Put put) {
        int sum = 0;
        for (int k = 0; k < p.spots.size(); k++) {
            Point at = put.cell(p.spots.get(k));
            boolean agrees = false;
            for (int x = at.x - doubt; x <= at.x + doubt; x++) {
                for (int y = at.y - doubt; y <= at.y + doubt; y++) {
                    agrees |= colourAt(x, y) == p.spotColours.get(k);
                }
            }
            sum += agrees ? 1 : 0;
        }
        return sum;
    }

    public int agree(int bit, int t, int x, int y) {
        if (!is(bit)) {
            return NONE;
        }
        if (badPut(t, x, y)) {
            return BAD;
        }
        return photo == null ? STATE : agreeing(pieces.get(bit), new Put(t, x, y));
    }

    public int best(int bit, int what) {
        if (!is(bit) || what < 0 || what > 4) {
            return BELOW;
        }
        Piece p = pieces.get(bit);
        if (photo == null || p.spots.isEmpty()) {
            return -100001;
        }
        int most = -1, rivals = 0;
        Put found = null;
        for (int t = 0; t < 4; t++) {
            for (int y = photoY - 25; y < photoY + 41; y++) {
                for (int x = photoX - 25; x < photoX + 41; x++) {
                    Put put = new Put(t, x, y);
                    boolean all = true;
                    for (Point spot : p.spots) {
                        Point cell = put.cell(spot);
                        all &= colourAt(cell.x, cell.y) != -2;
                    }
                    int n = all ? agreeing(p, put) : -2;
                    if (n > most) {
                        most = n;
                        found = put;
                        rivals = 0;
                    } else if (n == most) {
                        rivals++;
                    }
                }
            }
        }
        if (found == null) {
            return -100001;
        }
        return new int[] {most, found.t, found.x, found.y, rivals}[what];
    }

    public int arrange(int set) {
        List<Integer> bits = new ArrayList<>();
        for (int k = 0; k < 32; k++) {
            if ((set >>> k & 1) != 0) {
                bits.add(k);
            }
        }
        if (bits.size() < 2 || bits.size() > 3 || !is(bits.get(bits.size() - 1))) {
            return BAD;
        }
        Map<List<Integer>, Map<Integer, Put>> all = new HashMap<>();
        Map<Integer, Put> begin = new HashMap<>();
        begin.put(bits.get(0), HERE);
        arrangeMore(bits, begin, all);
        List<Integer> found = null;
        for (List<Integer> key : all.keySet()) {
            if (found == null || before(key, found)) {
                found = key;
            }
        }
        if (found == null) {
            return -5;
        }
        arranged = all.get(found);
        return -found.get(0);
    }

    private static boolean before(List<Integer> p, List<Integer> q) {
        for (int k = 0; k < p.size(); k++) {
            if (!p.get(k).equals(q.get(k))) {
                return p.get(k) < q.get(k);
            }
        }
        return false;
    }

    private void arrangeMore(List<Integer> bits, Map<Integer, Put> so, Map<List<Integer>, Map<Integer, Put>> all) {
        if (so.size() == bits.size()) {
            List<Integer> key = new ArrayList<>();
            key.add(-worth(so));
            for (int k = 1; k < bits.size(); k++) {
                Put put = so.get(bits.get(k));
                key.addAll(List.of(put.t, put.x, put.y));
            }
            all.put(key, new HashMap<>(so));
            return;
        }
        for (int a : bits) {
            for (int b : bits) {
                if (so.containsKey(a) && !so.containsKey(b)) {
                    for (int ea = 0; ea < pieces.get(a).corners.size(); ea++) {
                        for (int eb = 0; eb < pieces.get(b).corners.size(); eb++) {
                            Put how = fitting(a, ea, b, eb);
                            if (how != null) {
                                Put put = so.get(a).times(how);
                                boolean free = so.keySet().stream()
                                    .allMatch(c -> common(c, so.get(c), b, put) <= tolerance);
                                if (free) {
                                    Map<Integer, Put> more = new HashMap<>(so);
                                    more.put(b, put);
                                    arrangeMore(bits, more, all);
                                }
                            }
                        }
                    }
                }
            }
        }
    }

    private int worth(Map<Integer, Put> so) {
        int sum = 0;
        for (int a : so.keySet()) {
            for (int b : so.keySet()) {
                for (int ea = 0; a < b && ea < pieces.get(a).corners.size(); ea++) {
                    for (int eb = 0; eb < pieces.get(b).corners.size(); eb++) {
                        Put how = fitting(a, ea, b, eb);
                        if (how != null && so.get(a).times(how).equals(so.get(b))) {
                            sum += scoreOf(a, ea, b, eb, how);
                        }
                    }
                }
            }
        }
        return sum;
    }

    public int arranged(int bit, int what) {
        return part(arranged.get(bit), what);
    }

    // ---- questions, boxes

    private String text;
    private int at;
    private int fault;

    /** A question by plain descent: what it says of one bit; fault is set at the first wrong byte. */
    private boolean question(int bit) {
        boolean so = term(bit);
        while (fault < 0 && see('|')) {
            at++;
            so |= term(bit);
        }
        return so;
    }

    private boolean term(int bit) {
        boolean so = factor(bit);
        while (fault < 0 && see('&')) {
            at++;
            so &= factor(bit);
        }
        return so;
    }

    private boolean see(char c) {
        return at < text.length() && text.charAt(at) == c;
    }

    private boolean wrong() {
        if (fault < 0) {
            fault = at;
        }
        return false;
    }

    private boolean factor(int bit) {
        if (fault >= 0) {
            return false;
        }
        if (see('!')) {
            at++;
            return !factor(bit);
        }
        if (see('(')) {
            at++;
            boolean so = question(bit);
            if (fault >= 0) {
                return false;
            }
            if (!see(')')) {
                return wrong();
            }
            at++;
            return so;
        }
        if (at >= text.length() || "tspencjgwvb".indexOf(text.charAt(at)) < 0) {
            return wrong();
        }
        char letter = text.charAt(at++);
        if (at >= text.length() || "<=>".indexOf(text.charAt(at)) < 0) {
            return wrong();
        }
        char sign = text.charAt(at++);
        int digits = at;
        while (at < text.length() && Character.isDigit(text.charAt(at)) && text.charAt(at) < 128 && at < digits + 3
            && !text.substring(digits, at).equals("0")) {
            at++;
        }
        if (digits == at) {
            return wrong();
        }
        int number = Integer.parseInt(text.substring(digits, at));
        if (bit < 0) {
            return false;
        }
        int value = valueOf(letter, bit);
        return sign == '<' ? value < number : sign == '>' ? value > number : value == number;
    }

    private int valueOf(char letter, int bit) {
        Piece p = pieces.get(bit);
        switch (letter) {
            case 't': return p.thick;
            case 's': return p.straw == -1 ? 9 : p.straw;
            case 'p': return p.plaster;
            case 'e': return p.corners.size();
            case 'n': return p.cells.size();
            case 'c': return p.spots.size();
            case 'j': return (int) thereJoins().stream()
                .filter(j -> joins.get(j).a == bit || joins.get(j).b == bit).count();
            case 'g': return groupOf(bit).size();
            case 'w': return onWall(bit) == null ? 0 : 1;
            case 'v': return proofOf(bit) == null ? 0 : 1;
            default: return boxNow(bit) == -5 ? 99 : boxNow(bit);
        }
    }

    private int boxNow(int bit) {
        return box(bit, 999, entries.size());
    }

    public int ask() {
        text = takeTape();
        List<Integer> so = new ArrayList<>();
        for (int bit = -1; bit < pieces.size(); bit++) {
            at = 0;
            fault = -1;
            boolean is = question(bit);
            if (fault < 0 && at < text.length()) {
                fault = at;
            }
            if (fault >= 0) {
                return -10 - fault;
            }
            if (bit >= 0 && is) {
                so.add(bit);
            }
        }
        answered = so;
        return so.size();
    }

    public int asked(int i) {
        return i < 0 || i >= answered.size() ? NONE : answered.get(i);
    }

    public int enter(int bit, int box, int day) {
        if (!is(bit) || box < -1 || box > 9) {
            return NONE;
        }
        if (day < 0 || day > 999) {
            return BAD;
        }
        if (entries.size() == 100) {
            return FULL;
        }
        entries.add(new int[] {bit, box, day});
        return entries.size();
    }

    public int box(int bit, int day, int known) {
        if (!is(bit) || known < 0 || known > entries.size()) {
            return NONE;
        }
        if (day < 0 || day > 999) {
            return BAD;
        }
        for (int d = day; d >= 0; d--) {
            for (int k = known - 1; k >= 0; k--) {
                int[] e = entries.get(k);
                if (e[0] == bit && e[2] == d) {
                    return e[1] == -1 ? -5 : e[1];
                }
            }
        }
        return -5;
    }

    public int skill(int hand, int plaster, int n) {
        if (hand < 0 || hand > 5 || plaster < 0 || plaster > 9) {
            return NONE;
        }
        if (n < 0 || n > 9) {
            return BAD;
        }
        int was = skills[hand][plaster];
        skills[hand][plaster] = n;
        return was;
    }

    private int shareWorth;
    private int[] shareBoxes;

    public int share(int hand) {
        if (hand < -1 || hand > 5) {
            return BELOW;
        }
        int[][] worth = new int[6][11];
        for (int bit = 0; bit < pieces.size(); bit++) {
            int box = boxNow(bit);
            for (int h = 0; box >= 0 && h < 6; h++) {
                worth[h][box] += skills[h][pieces.get(bit).plaster];
            }
        }
        shareWorth = -1;
        shareMore(0, 0, new int[6], worth);
        if (hand == -1) {
            return shareWorth;
        }
        return shareBoxes[hand] == 10 ? -5 : shareBoxes[hand];
    }

    /** In the order of the least boxes, so that the first of the most is the one. */
    private void shareMore(int hand, int sum, int[] boxes, int[][] worth) {
        if (hand == 6) {
            if (sum > shareWorth) {
                shareWorth = sum;
                shareBoxes = boxes.clone();
            }
            return;
        }
        for (int box = 0; box <= 10; box++) {
            boolean free = true;
            for (int h = 0; h < hand && box < 10; h++) {
                free &= boxes[h] != box;
            }
            if (free) {
                boxes[hand] = box;
                shareMore(hand + 1, sum + worth[hand][box], boxes, worth);
            }
        }
    }

    public int count(int what) {
        switch (what) {
            case 0: return pieces.size();
            case 1: return thereJoins().size();
            case 2:
                Set<Set<Integer>> groups = new HashSet<>();
                for (int k = 0; k < pieces.size(); k++) {
                    groups.add(groupOf(k).keySet());
                }
                return groups.size();
            case 3: return countBits(k -> onWall(k) != null);
            case 4: return words.size();
            case 5: return countBits(k -> proofOf(k) != null);
            case 6: return entries.size();
            case 7: return tape.length();
            case 8: return joins.size();
            default: return NONE;
        }
    }

    private int countBits(java.util.function.IntPredicate is) {
        int sum = 0;
        for (int k = 0; k < pieces.size(); k++) {
            sum += is.test(k) ? 1 : 0;
        }
        return sum;
    }

    @Override
    public String toString() {
        return Arrays.toString(told) + toldJoins;
    }
}
