import java.lang.reflect.Method;
import java.util.ArrayList;
import java.util.Arrays;
import java.util.List;
import java.util.Map;
import java.util.Random;
import java.util.TreeMap;

/** Random runs of calls on FrescoWall and on PlainWall; the seeds are fixed, so each time they are the same. */
public final class AgainstPlainTest {
    private static final int MOST_CALLS = 512;
    private static final Map<String, Method> REAL = methods(FrescoWall.class);
    private static final Map<String, Method> PLAIN = methods(PlainWall.class);
    private final Random random;
    private final FrescoWall real = new FrescoWall();
    private final PlainWall plain = new PlainWall();
    private final List<String> log = new ArrayList<>();
    private final int mostBits;
    private final int mostColour;
    private final int mostThick;
    private int calls;

    private AgainstPlainTest(long seed) {
        random = new Random(seed);
        mostBits = 3 + random.nextInt(8);
        mostColour = random.nextInt(10);
        mostThick = 1 + random.nextInt(12);
    }

    private static Map<String, Method> methods(Class<?> type) {
        Map<String, Method> found = new TreeMap<>();
        for (Method m : type.getDeclaredMethods()) {
            if (java.lang.reflect.Modifier.isPublic(m.getModifiers()) && !m.getName().equals("toString")) {
                found.put(m.getName(), m);
            }
        }
        return found;
    }

    public static void main(String[] args) throws Exception {
        int runs = args.length > 0 ? Integer.parseInt(args[0]) : 150;
        int from = args.length > 1 ? Integer.parseInt(args[1]) : 0;
        Map<String, Integer> seen = new TreeMap<>();
        if (!REAL.keySet().equals(PLAIN.keySet())) {
            System.out.println("the faces differ: " + REAL.keySet() + PLAIN.keySet());
            System.exit(1);
        }
        for (int seed = from; seed < from + runs; seed++) {
            AgainstPlainTest run = new AgainstPlainTest(seed);
            if (!run.go(seen)) {
                System.out.println("seed " + seed + ":");
                run.log.forEach(System.out::println);
                System.exit(1);
            }
        }
        System.out.println("AgainstPlainTest: " + runs + " runs agree");
        if (args.length > 0) {
            System.out.println(seen);
        }
    }

    private boolean go(Map<String, Integer> seen) throws Exception {
        while (calls < MOST_CALLS) {
            int before = log.size();
            if (!step()) {
                return false;
            }
            for (String line : log.subList(before, log.size())) {
                String name = line.substring(0, line.indexOf('['));
                int answer = Integer.parseInt(line.substring(line.lastIndexOf(' ') + 1));
                String key = answer < 0 ? name + " " + (answer <= -10 && answer > -1000
                    && !name.equals("join") && !name.equals("word") && !name.equals("put") ? -10 : answer) : name;
                seen.merge(key, 1, Integer::sum);
            }
        }
        return true;
    }

    /** Calls both; whether they agree. Behind its 512th call an object is not called any more. */
    private boolean same(String name, Object... args) throws Exception {
        if (calls == MOST_CALLS) {
            return true;
        }
        calls++;
        int due = (Integer) PLAIN.get(name).invoke(plain, args);
        int got = (Integer) REAL.get(name).invoke(real, args);
        log.add(name + Arrays.toString(args) + " " + got);
        if (got != due) {
            log.add("  due is " + due);
        }
        return got == due;
    }

    private int any(int low, int high) {
        return low + random.nextInt(high - low + 1);
    }

    private boolean rarely(int often) {
        return random.nextInt(often) == 0;
    }

    private int aBit() {
        return rarely(60) ? any(-1, 31) : any(0, Math.max(0, plain.count(0) - 1));
    }

    private int anotherBit(int bit) {
        int other = aBit();
        return other == bit && !rarely(20) ? aBit() : other;
    }

    private int anEdge(int bit) {
        return rarely(60) ? any(-1, 9) : any(0, Math.max(0, plain.about(bit, 0) - 1));
    }

    private int what(int most) {
        return rarely(60) ? any(-2, most + 3) : any(0, most);
    }

    private int aTurn() {
        return rarely(60) ? any(-1, 4) : any(0, 3);
    }

    private int aPlace() {
        return rarely(60) ? any(-510, 510) : any(-8, 8);
    }

    private boolean step() throws Exception {
        if (plain.count(0) < 2 || (plain.count(0) < mostBits && rarely(6))) {
            return newBit();
        }
        switch (any(0, 13)) {
            case 0: case 1: return aboutFits();
            case 2: case 3: case 4: return joining();
            case 5: case 6: case 7: return standing();
            case 8: return photographing();
            case 9: return rarely(3) ? arranging() : looking();
            case 10: return asking();
            case 11: return boxing();
            case 12: return settings();
            default: return looking();
        }
    }

    private boolean feedAll(String text) throws Exception {
        int at = 0;
        while (at < text.length()) {
            int n = Math.min(rarely(3) ? any(1, 8) : 8, text.length() - at);
            long w = random.nextLong();
            for (int k = 0; k < n; k++) {
                w = w << 8 | text.charAt(at + k) & 255;
            }
            if (!same("feed", w, n)) {
                return false;
            }
            at += n;
        }
        return true;
    }

    private String harmed(String text) {
        StringBuilder s = new StringBuilder(text);
        String signs = "0123456789,:;|=-./!()&<>tspencjgwvbx ";
        int at = s.length() == 0 ? 0 : random.nextInt(s.length());
        char c = rarely(9) ? (char) random.nextInt(256) : signs.charAt(random.nextInt(signs.length()));
        switch (any(0, 3)) {
            case 0: s.insert(at, c); break;
            case 1: if (s.length() > 0) s.setCharAt(at, c); break;
            case 2: if (s.length() > 0) s.deleteCharAt(at); break;
            default: s.setLength(at);
        }
        return s.length() > 200 ? s.substring(0, 200) : s.toString();
    }

    private String shape() {
        int a = any(1, 3);
        int b = any(1, 3);
        int[][][] shapes = {
            {{0, 0}, {a, 0}, {a, b}, {0, b}},
            {{0, 0}, {a, 0}, {a, b}, {0, b}},
            {{0, 0}, {a, 0}, {0, b}},
            {{0, 0}, {a + b, 0}, {a + b, b}, {a, b}, {a, a + b}, {0, a + b}},
            {{0, 0}, {a, 0}, {a + b, 0}, {a + b, 2}, {a, 2}, {0, 2}},
            {{0, 0}, {3, 0}, {3, 1}, {2, 1}, {2, 2}, {1, 2}, {1, 1}, {0, 1}},
            {{0, 0}, {a, -1}, {a + 1, 2}, {1, 3}},
        };
        int[][] shape = shapes[any(0, shapes.length - 1)];
        if (rarely(8)) {
            shape = new int[any(3, 8)][2];
            for (int[] corner : shape) {
                corner[0] = any(-3, 3);
                corner[1] = any(-3, 3);
            }
        }
        int turn = any(0, 3);
        int dx = any(-2, 2);
        int dy = any(-2, 2);
        int first = any(0, shape.length - 1);
        StringBuilder s = new StringBuilder();
        for (int k = 0; k < shape.length; k++) {
            int[] p = shape[(k + first) % shape.length].clone();
            for (int t = 0; t < turn; t++) {
                p = new int[] {-p[1], p[0]};
            }
            s.append(k == 0 ? "" : ";").append(p[0] + dx).append(',').append(p[1] + dy).append(':')
                .append(any(0, mostColour));
        }
        String ring = s.toString();
        int spots = rarely(3) ? any(0, 6) : any(0, 2);
        for (int k = 0; k < spots; k++) {
            int x = any(-5, 4) + dx;
            int y = any(-5, 4) + dy;
            for (int round = 0; round < 50 && !rarely(500) && !PlainWall.isCell(ring, x, y); round++) {
                x = any(-5, 4) + dx;
                y = any(-5, 4) + dy;
            }
            s.append('|').append(x).append(',').append(y).append('=').append(any(0, 3));
        }
        return s.toString();
    }

    private boolean newBit() throws Exception {
        String text = shape();
        if (!feedAll(rarely(6) ? harmed(text) : text)) {
            return false;
        }
        if (rarely(20) && !same("bit", any(-1, 101), any(-3, 5), any(-1, 10))) {
            return false;
        }
        return same("bit", any(1, mostThick), any(-1, 3), rarely(5) ? 1 : 0) && same("count", 7);
    }

    private boolean aboutFits() throws Exception {
        int a = aBit(), b = anotherBit(a);
        int ea = anEdge(a), eb = anEdge(b);
        int i = what(3);
        int fit = plain.fit(a, ea, i);
        if (fit >= 0) {
            b = fit / 10;
            eb = fit % 10;
        }
        return same("fits", a, ea) && same("fit", a, ea, i) && same("score", a, ea, b, eb)
            && same("turned", a, ea, b, eb, what(2)) && same("rival", a, ea, b, eb);
    }

    private boolean joining() throws Exception {
        if (rarely(4)) {
            int join = any(rarely(20) ? -1 : 0, Math.max(0, plain.count(8) - (rarely(9) ? 0 : 1)));
            return same("undo", join) && same("joined", join, 0) && looking();
        }
        int a = aBit();
        int ea = anEdge(a);
        int n = plain.fits(a, ea);
        int fit = n > 0 ? plain.fit(a, ea, rarely(2) ? 0 : any(0, n - 1)) : -1;
        int b = fit >= 0 ? fit / 10 : anotherBit(a);
        int eb = fit >= 0 ? fit % 10 : anEdge(b);
        return same("join", a, ea, b, eb) && tellClash() && same("group", b, what(2))
            && same("joined", any(0, Math.max(0, plain.count(8) - 1)), what(4));
    }

    private boolean tellClash() throws Exception {
        return same("clash", 0) && same("clash", 1) && same("clash", 2) && same("clash", 3)
            && same("clash", 10) && same("clash", rarely(9) ? any(-3, 30) : 11);
    }

    /** Often where a bit stands already, or where a fit with one that stands would bring it. */
    private boolean standing() throws Exception {
        int bit = aBit();
        int t = aTurn(), x = aPlace(), y = aPlace();
        int other = aBit();
        int edge = anEdge(other);
        int fit = plain.fit(other, edge, what(2));
        if (!rarely(4) && plain.placed(other, 0) >= 0 && fit >= 0) {
            bit = fit / 10;
            PlainWall.Put how = new PlainWall.Put(plain.turned(other, edge, bit, fit % 10, 0),
                plain.turned(other, edge, bit, fit % 10, 1), plain.turned(other, edge, bit, fit % 10, 2));
            PlainWall.Put at = new PlainWall.Put(plain.placed(other, 0), plain.placed(other, 1), plain.placed(other, 2));
            PlainWall.Put put = at.times(how);
            t = put.t();
            x = put.x();
            y = put.y();
        } else if (rarely(3) && plain.placed(bit, 0) >= 0) {
            t = plain.placed(bit, 0);
            x = plain.placed(bit, 1);
            y = plain.placed(bit, 2);
        }
        switch (any(0, 11)) {
            case 0: case 1: case 2: return same("word", bit, t, x, y) && tellClash() && same("placed", other, what(3));
            case 3: case 4: case 5: return same("put", bit, t, x, y) && tellClash() && same("placed", other, what(3));
            case 6: return same("unsay", bit);
            case 7: return same("lift", bit);
            case 8: return provedBits();
            default: return same("proof", bit) && same("reason", bit, what(2)) && same("at", aPlace(), aPlace());
        }
    }

    private boolean provedBits() throws Exception {
        for (int bit = 0; bit < plain.count(0); bit++) {
            if (plain.proof(bit) > 0 && !(same("proof", bit) && same("reason", bit, 0) && same("reason", bit, 1)
                && same("reason", bit, 2))) {
                return false;
            }
        }
        return same("count", 5);
    }

    private boolean photographing() throws Exception {
        int x = aPlace(), y = aPlace();
        if (rarely(2)) {
            int rows = rarely(9) ? any(1, 17) : any(1, 5);
            int columns = rarely(9) ? any(1, 18) : any(1, 6);
            StringBuilder s = new StringBuilder();
            for (int r = 0; r < rows && s.length() < 180; r++) {
                s.append(r == 0 ? "" : "/");
                for (int c = 0; c < columns; c++) {
                    s.append("0123.".charAt(any(0, 4)));
                }
            }
            if (!feedAll(rarely(4) ? harmed(s.toString()) : s.toString())
                || !same("photograph", x, y, rarely(30) ? any(-1, 4) : any(0, 2))) {
                return false;
            }
        }
        int bit = aBit();
        return same("agree", bit, aTurn(), x + any(-3, 3), y + any(-3, 3)) && same("best", bit, what(4))
            && same("best", aBit(), what(4));
    }

    private boolean arranging() throws Exception {
        int set = 0;
        for (int k = rarely(30) ? any(0, 4) : rarely(2) ? 3 : 2; k > 0; k--) {
            int bit = aBit();
            set |= 1 << ((set >>> bit & 1) != 0 ? aBit() : bit);
        }
        return same("arrange", set) && same("arranged", aBit(), what(2)) && same("arranged", aBit(), what(2));
    }

    private String questionText(int depth) {
        int kind = depth == 0 ? 0 : any(0, 5);
        switch (kind) {
            case 1: return "!" + questionText(depth - 1);
            case 2: return "(" + questionText(depth - 1) + ")";
            case 3: return questionText(depth - 1) + "&" + questionText(depth - 1);
            case 4: return questionText(depth - 1) + "|" + questionText(depth - 1);
            default:
                String letters = "tspencjgwvb";
                return "" + letters.charAt(random.nextInt(11)) + "<=>".charAt(any(0, 2))
                    + (rarely(9) ? any(0, 1200) : any(0, 5));
        }
    }

    private boolean asking() throws Exception {
        String text = questionText(any(0, 4));
        text = text.length() > 150 ? text.substring(0, 150) : text;
        return feedAll(rarely(3) ? harmed(text) : text) && same("ask") && same("asked", what(2)) && same("asked", what(2));
    }

    private boolean boxing() throws Exception {
        int bit = aBit();
        int day = aDay();
        int box = rarely(20) ? any(-3, 11) : any(-1, 3);
        if (rarely(25)) {
            return same("share", rarely(9) ? any(-3, 7) : any(-1, 5));
        }
        if (rarely(3)) {
            return same("skill", rarely(20) ? any(-1, 6) : any(0, 5), rarely(9) ? any(-1, 10) : any(0, 1), what(9));
        }
        return same("enter", bit, box, day)
            && same("box", bit, aDay(), someEntries());
    }

    private int aDay() {
        if (rarely(20)) {
            return rarely(2) ? any(-2, 0) : any(998, 1001);
        }
        return any(0, 12);
    }

    private int someEntries() {
        if (rarely(12)) {
            return rarely(2) ? any(-3, -1) : plain.count(6) + any(1, 3);
        }
        return any(0, plain.count(6));
    }

    private boolean settings() throws Exception {
        return rarely(2) ? same("tolerance", rarely(9) ? any(-2, 33) : any(0, 2))
            : same("likeness", what(3), what(3), rarely(9) ? any(-1, 10) : any(0, 9));
    }

    private boolean looking() throws Exception {
        int a = aBit(), b = anotherBit(a);
        return same("count", what(8)) && same("about", a, what(6)) && same("corner", a, anEdge(a), what(2))
            && same("overlap", a, b, aTurn(), aPlace() / 3, aPlace() / 3) && same("group", a, what(2))
            && same("placed", b, what(3)) && same("count", 5) && same("at", aPlace(), aPlace());
    }
}
