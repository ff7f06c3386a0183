/** A painted wall that fell in bits; ../shared/DOC.md says what each call answers. */
public final class FrescoWall {
    public static final int NONE = -1, BAD = -2, STATE = -3, FULL = -4;

    /** NONE, where the answer itself may be below 0. */
    private static final int NONE_BELOW = -100000;
    private static final int NO_PLACING = -100001;
    /** A box, an arrangement or a rival that isn't there. */
    private static final int MISSING = -5;
    private static final int NO_RING = -5;
    private static final int NO_SPOT = -6;
    /** What a FAULT or a CLASH is taken from. */
    private static final int TOLD = -10;

    private static final int MOST_BITS = 30;
    private static final int MOST_CORNERS = 8;
    private static final int MOST_SPOTS = 5;
    private static final int MOST_JOINS = 60;
    private static final int MOST_TOLERANCE = 30;
    private static final int FAR = 500;
    private static final int LAST_DAY = 999;

    private final Tape tape;
    private final Sketch sketch;
    private final Fits matcher;
    private final Joins joins;
    private final Wall wall;
    private final Photo photo;
    private final Arranger arranger;
    private final Boxes boxes;
    private final Question question;

    public FrescoWall() {
        tape = new Tape();
        sketch = new Sketch(tape);
        matcher = new Fits();
        joins = new Joins();
        wall = new Wall(matcher, joins);
        photo = new Photo();
        arranger = new Arranger(matcher);
        boxes = new Boxes();
        question = new Question(matcher, joins, boxes);
    }

    // ---- bits

    public int feed(long w, int n) {
        if (n < 1 || n > 8) {
            return BAD;
        }
        if (tape.size + n > Tape.MOST) {
            return FULL;
        }
        for (int k = n - 1; k >= 0; k--) {
            tape.append((int) (w >>> (8 * k)) & 255);
        }
        return tape.size;
    }

    public int bit(int thick, int straw, int plaster) {
        if (thick < 1 || thick > 99 || straw < -1 || straw > 3 || plaster < 0 || plaster > 9) {
            return BAD;
        }
        if (matcher.count == MOST_BITS) {
            return FULL;
        }
        int fault = sketch.readTape();
        tape.size = 0;
        if (fault >= 0) {
            return TOLD - fault;
        }
        if (!sketch.isRing()) {
            return NO_RING;
        }
        if (!sketch.hasGoodSpots()) {
            return NO_SPOT;
        }
        int number = matcher.count;
        matcher.addBit(new Bit(sketch, thick, straw, plaster));
        joins.addBit(number);
        return number;
    }

    public int about(int bit, int what) {
        if (!isBit(bit)) {
            return NONE_BELOW;
        }
        Bit one = matcher.bits[bit];
        switch (what) {
            case 0: return one.edges;
            case 1: return one.twiceArea;
            case 2: return one.cells;
            case 3: return one.spots;
            case 4: return one.thick;
            case 5: return one.straw;
            case 6: return one.plaster;
            default: return NONE_BELOW;
        }
    }

    public int corner(int bit, int k, int what) {
        if (!isEdge(bit, k)) {
            return NONE_BELOW;
        }
        Bit one = matcher.bits[bit];
        switch (what) {
            case 0: return one.cornerX[k];
            case 1: return one.cornerY[k];
            case 2: return one.colour[k];
            default: return NONE_BELOW;
        }
    }

    public int overlap(int a, int b, int t, int x, int y) {
        if (!isBit(a) || !isBit(b)) {
            return NONE;
        }
        if (a == b || !isPlacing(t, x, y)) {
            return BAD;
        }
        return matcher.bits[a].common(0, matcher.bits[b], t, x, y);
    }

    public int tolerance(int n) {
        if (n < 0 || n > MOST_TOLERANCE) {
            return BAD;
        }
        int before = matcher.allowed;
        matcher.allowed = n;
        return before;
    }

    // ---- fits

    public int likeness(int a, int b, int n) {
        if (!isDigit(a) || !isDigit(b)) {
            return NONE;
        }
        if (!isDigit(n)) {
            return BAD;
        }
        int before = matcher.like[10 * a + b];
        matcher.like[10 * a + b] = n;
        matcher.like[10 * b + a] = n;
        return before;
    }

    public int score(int a, int edge, int b, int other) {
        int refusal = refusePair(a, edge, b, other);
        if (refusal != 0) {
            return refusal;
        }
        long how = matcher.fitting(a, edge, b, other);
        return how < 0 ? STATE : matcher.scoreOf(a, edge, b, other, Place.turn(how));
    }

    public int turned(int a, int edge, int b, int other, int what) {
        if (refusePair(a, edge, b, other) != 0) {
            return NONE_BELOW;
        }
        long how = matcher.fitting(a, edge, b, other);
        return how < 0 ? NONE_BELOW : partOf(how, what);
    }

    public int fits(int a, int edge) {
        return isEdge(a, edge) ? matcher.collect(a, edge) : NONE;
    }

    public int fit(int a, int edge, int i) {
        if (!isEdge(a, edge) || i < 0 || i >= matcher.collect(a, edge)) {
            return NONE;
        }
        return matcher.keys[i] % Fits.STEP;
    }

    public int rival(int a, int edge, int b, int other) {
        int refusal = refusePair(a, edge, b, other);
        if (refusal != 0) {
            return refusal;
        }
        if (matcher.fitting(a, edge, b, other) < 0) {
            return STATE;
        }
        int ofA = matcher.rivalOf(a, edge, b, other);
        if (ofA >= 0) {
            return 1000 * a + ofA;
        }
        int ofB = matcher.rivalOf(b, other, a, edge);
        return ofB >= 0 ? 1000 * b + ofB : MISSING;
    }

    // ---- joins

    public int join(int a, int edge, int b, int other) {
        int refusal = refusePair(a, edge, b, other);
        if (refusal != 0) {
            return refusal;
        }
        long how = matcher.fitting(a, edge, b, other);
        if (how < 0 || joins.isTaken(a, edge) || joins.isTaken(b, other)) {
            return STATE;
        }
        if (joins.made == MOST_JOINS) {
            return FULL;
        }
        int kind = wall.attach(a, b, how);
        return kind != 0 ? TOLD - kind : joins.add(a, edge, b, other);
    }

    public int undo(int join) {
        if (!joins.isThere(join)) {
            return NONE;
        }
        joins.remove(join);
        return Integer.bitCount(joins.group[joins.bitA[join]] | joins.group[joins.bitB[join]]);
    }

    public int joined(int join, int what) {
        if (!joins.isThere(join)) {
            return NONE;
        }
        switch (what) {
            case 0: return joins.bitA[join];
            case 1: return joins.edgeA[join];
            case 2: return joins.bitB[join];
            case 3: return joins.edgeB[join];
            case 4: return isBest(join) ? 1 : 0;
            default: return NONE;
        }
    }

    public int group(int bit, int what) {
        if (!isBit(bit)) {
            return NONE;
        }
        int group = joins.group[bit];
        switch (what) {
            case 0: return Integer.numberOfTrailingZeros(group);
            case 1: return Integer.bitCount(group);
            case 2: return joins.countIn(group);
            default: return NONE;
        }
    }

    public int clash(int what) {
        if (wall.clashKind == 0) {
            return NONE;
        }
        switch (what) {
            case 0: return wall.clashKind;
            case 1: return wall.clashSize;
            case 2: return wall.clashFirst;
            case 3: return wall.clashSecond;
            default: return what >= 10 && what - 10 < wall.clashSize ? wall.clashJoins[what - 10] : NONE;
        }
    }

    // ---- the wall

    public int word(int bit, int t, int x, int y) {
        if (!isBit(bit)) {
            return NONE;
        }
        if (!isPlacing(t, x, y)) {
            return BAD;
        }
        int kind = wall.say(bit, Place.of(t, x, y));
        return kind != 0 ? TOLD - kind : Integer.bitCount(joins.group[bit]);
    }

    public int unsay(int bit) {
        if (!isBit(bit)) {
            return NONE;
        }
        if (!wall.hasWord(bit)) {
            return STATE;
        }
        wall.takeBack(bit);
        return 1;
    }

    public int put(int bit, int t, int x, int y) {
        if (!isBit(bit)) {
            return NONE;
        }
        if (!isPlacing(t, x, y)) {
            return BAD;
        }
        if (wall.groupHasWord(bit)) {
            return STATE;
        }
        int kind = wall.lay(bit, Place.of(t, x, y));
        return kind != 0 ? TOLD - kind : Integer.bitCount(joins.group[bit]);
    }

    public int lift(int bit) {
        if (!isBit(bit)) {
            return NONE;
        }
        if (!wall.stands(bit) || wall.groupHasWord(bit)) {
            return STATE;
        }
        wall.puts &= ~joins.group[bit];
        return Integer.bitCount(joins.group[bit]);
    }

    public int placed(int bit, int what) {
        if (!isBit(bit) || !wall.stands(bit)) {
            return NONE_BELOW;
        }
        if (what != 3) {
            return partOf(wall.place[bit], what);
        }
        if (wall.hasWord(bit)) {
            return 2;
        }
        return wall.groupHasWord(bit) ? 1 : 0;
    }

    public int at(int x, int y) {
        return wall.bitAt(x, y);
    }

    public int proof(int bit) {
        if (!isBit(bit)) {
            return NONE;
        }
        int steps = wall.prove(bit);
        return steps < 0 ? STATE : steps;
    }

    public int reason(int bit, int i) {
        if (!isBit(bit) || i < 0 || i >= wall.prove(bit)) {
            return NONE;
        }
        return joins.steps[i];
    }

    // ---- photographs, arrangements

    public int photograph(int x, int y, int doubt) {
        if (!isNear(x) || !isNear(y) || doubt < 0 || doubt > Photo.MOST_DOUBT) {
            return BAD;
        }
        int fault = photo.faultOf(tape);
        if (fault < 0) {
            photo.take(tape, x, y, doubt);
        }
        tape.size = 0;
        return fault < 0 ? photo.countColours() : TOLD - fault;
    }

    public int agree(int bit, int t, int x, int y) {
        if (!isBit(bit)) {
            return NONE;
        }
        if (!isPlacing(t, x, y)) {
            return BAD;
        }
        return photo.isThere() ? photo.countAgreeing(matcher.bits[bit], t, x, y) : STATE;
    }

    public int best(int bit, int what) {
        if (!isBit(bit) || what < 0 || what > 4) {
            return NONE_BELOW;
        }
        if (!photo.isThere() || !photo.search(matcher.bits[bit])) {
            return NO_PLACING;
        }
        switch (what) {
            case 0: return photo.bestAgreeing;
            case 4: return photo.rivals;
            default: return partOf(photo.bestPlace, what - 1);
        }
    }

    public int arrange(int set) {
        int size = Integer.bitCount(set);
        if ((set & ~matcher.allBits()) != 0 || size < 2 || size > 3) {
            return BAD;
        }
        return arranger.solve(set) ? arranger.bestWorth : MISSING;
    }

    public int arranged(int bit, int what) {
        if (!isBit(bit) || !arranger.holds(bit)) {
            return NONE_BELOW;
        }
        return partOf(arranger.placeOf(bit), what);
    }

    // ---- questions, boxes

    public int ask() {
        // Proofs are dear, so they are made just for questions that may want them.
        int proved = tape.contains('v') ? wall.proved() : 0;
        int fault = question.readTape(tape, wall.standing(), proved);
        tape.size = 0;
        return fault < 0 ? Integer.bitCount(question.answer) : TOLD - fault;
    }

    public int asked(int i) {
        int left = question.answer;
        if (i < 0 || i >= Integer.bitCount(left)) {
            return NONE;
        }
        for (int k = 0; k < i; k++) {
            left &= left - 1;
        }
        return Integer.numberOfTrailingZeros(left);
    }

    public int enter(int bit, int box, int day) {
        if (!isBit(bit) || box < -1 || box >= Boxes.BOXES) {
            return NONE;
        }
        if (!isDay(day)) {
            return BAD;
        }
        return boxes.isFull() ? FULL : boxes.addEntry(bit, box, day);
    }

    public int box(int bit, int day, int entries) {
        // Fewer entries than none are no such entries, as more than there are.
        if (!isBit(bit) || entries < 0 || entries > boxes.count) {
            return NONE;
        }
        if (!isDay(day)) {
            return BAD;
        }
        int found = boxes.boxOf(bit, day, entries);
        return found < 0 ? MISSING : found;
    }

    public int skill(int hand, int plaster, int n) {
        if (!isHand(hand) || !isDigit(plaster)) {
            return NONE;
        }
        if (!isDigit(n)) {
            return BAD;
        }
        int before = boxes.skills[10 * hand + plaster];
        boxes.skills[10 * hand + plaster] = n;
        return before;
    }

    public int share(int hand) {
        if (hand != -1 && !isHand(hand)) {
            return NONE_BELOW;
        }
        int worth = boxes.shareOut(matcher);
        if (hand == -1) {
            return worth;
        }
        return boxes.boxOfHand[hand] < 0 ? MISSING : boxes.boxOfHand[hand];
    }

    public int count(int what) {
        switch (what) {
            case 0: return matcher.count;
            case 1: return Long.bitCount(joins.there);
            case 2: return joins.countGroups(matcher.count);
            case 3: return Integer.bitCount(wall.standing());
            case 4: return Integer.bitCount(wall.words);
            case 5: return Integer.bitCount(wall.proved());
            case 6: return boxes.count;
            case 7: return tape.size;
            case 8: return joins.made;
            default: return NONE;
        }
    }

    // ---- what the calls look at first

    private boolean isBit(int bit) {
        return bit >= 0 && bit < matcher.count;
    }

    private boolean isEdge(int bit, int edge) {
        return isBit(bit) && edge >= 0 && edge < matcher.bits[bit].edges;
    }

    private boolean isBest(int join) {
        return matcher.isBestBothWays(joins.bitA[join], joins.edgeA[join], joins.bitB[join], joins.edgeB[join]);
    }

    private int refusePair(int a, int edge, int b, int other) {
        if (!isEdge(a, edge) || !isEdge(b, other)) {
            return NONE;
        }
        return a == b ? BAD : 0;
    }

    private static boolean isDigit(int n) {
        return n >= 0 && n <= 9;
    }

    private static boolean isNear(int n) {
        return n >= -FAR && n <= FAR;
    }

    private static boolean isPlacing(int t, int x, int y) {
        return t >= 0 && t <= 3 && isNear(x) && isNear(y);
    }

    private static boolean isDay(int day) {
        return day >= 0 && day <= LAST_DAY;
    }

    private static boolean isHand(int hand) {
        return hand >= 0 && hand < Boxes.HANDS;
    }

    private static int partOf(long place, int what) {
        switch (what) {
            case 0: return Place.turn(place);
            case 1: return Place.x(place);
            case 2: return Place.y(place);
            default: return NONE_BELOW;
        }
    }

    /**
     * A placing (t, x, y) packed in a long that is never below 0, so that placings need no objects,
     * are alike if their numbers are, and come in order of t, then x, then y.
     */
    private static final class Place {
        static final long NOWHERE = -1;
        static final long HERE = (1L << 39) | (1L << 19);
        private static final int HALF = 1 << 19;
        private static final long MASK = (1L << 20) - 1;

        static long of(int t, int x, int y) {
            return ((long) (t & 3) << 40) | (((x + HALF) & MASK) << 20) | ((y + HALF) & MASK);
        }

        static int turn(long place) {
            return (int) (place >> 40) & 3;
        }

        static int x(long place) {
            return (int) ((place >> 20) & MASK) - HALF;
        }

        static int y(long place) {
            return (int) (place & MASK) - HALF;
        }

        static int turnedX(int t, int x, int y) {
            switch (t & 3) {
                case 0: return x;
                case 1: return -y;
                case 2: return -x;
                default: return y;
            }
        }

        static int turnedY(int t, int x, int y) {
            switch (t & 3) {
                case 0: return y;
                case 1: return x;
                case 2: return -y;
                default: return -x;
            }
        }

        /** A cell turns by its middle, so its lower left corner is another one then. */
        static int cellX(int t, int x, int y) {
            return turnedX(t, x, y) - (t == 1 || t == 2 ? 1 : 0);
        }

        static int cellY(int t, int x, int y) {
            return turnedY(t, x, y) - (t == 2 || t == 3 ? 1 : 0);
        }

        /** What is placed by inner within something that is placed by outer. */
        static long onto(long outer, long inner) {
            int t = turn(outer);
            int x = x(inner);
            int y = y(inner);
            return of(t + turn(inner), turnedX(t, x, y) + x(outer), turnedY(t, x, y) + y(outer));
        }

        static long inverse(long place) {
            int back = 4 - turn(place);
            int x = -x(place);
            int y = -y(place);
            return of(back, turnedX(back, x, y), turnedY(back, x, y));
        }

        /** How the second is placed as the first one sees it. */
        static long against(long first, long second) {
            return onto(inverse(first), second);
        }

        /** The move that brings what is placed by from to where to is. */
        static long move(long from, long to) {
            return onto(to, inverse(from));
        }
    }

    /** The bytes that came in and were not read yet. */
    private static final class Tape {
        static final int MOST = 240;
        int size;
        private final byte[] bytes = new byte[MOST];

        void append(int value) {
            if (size < MOST) {
                bytes[size] = (byte) value;
                size++;
            }
        }

        /** The byte at a place, -1 behind the end. */
        int peek(int at) {
            return at >= 0 && at < size ? bytes[at] & 255 : -1;
        }

        /** The digit at a place, -1 if there is none. */
        int digit(int at) {
            int sign = peek(at);
            return sign >= '0' && sign <= '9' ? sign - '0' : -1;
        }

        boolean contains(int sign) {
            for (int at = 0; at < size; at++) {
                if (peek(at) == sign) {
                    return true;
                }
            }
            return false;
        }
    }

    /** What the tape says of a bit, before it is known whether it is one. */
    private static final class Sketch {
        private static final int LEAST_CORNERS = 3;
        private static final int MOST_COORDINATE = 20;
        private final Tape tape;
        private int at;
        private int number;
        int corners;
        final int[] x = new int[MOST_CORNERS];
        final int[] y = new int[MOST_CORNERS];
        final int[] colour = new int[MOST_CORNERS];
        int spots;
        final int[] spotX = new int[MOST_SPOTS];
        final int[] spotY = new int[MOST_SPOTS];
        final int[] spotColour = new int[MOST_SPOTS];

        Sketch(Tape tape) {
            this.tape = tape;
        }

        /** The FAULT, or -1. */
        int readTape() {
            at = 0;
            corners = 0;
            spots = 0;
            while (corners < MOST_CORNERS && (corners == 0 || skip(';'))) {
                if (!readPoint(':', x, y, colour, corners)) {
                    return at;
                }
                corners++;
            }
            if (corners < LEAST_CORNERS) {
                return at;
            }
            while (spots < MOST_SPOTS && skip('|')) {
                if (!readPoint('=', spotX, spotY, spotColour, spots)) {
                    return at;
                }
                spots++;
            }
            return at == tape.size ? -1 : at;
        }

        private boolean skip(int sign) {
            if (tape.peek(at) != sign) {
                return false;
            }
            at++;
            return true;
        }

        private boolean readPoint(int sign, int[] xs, int[] ys, int[] colours, int k) {
            if (!readCoordinate()) {
                return false;
            }
            xs[k] = number;
            if (!skip(',') || !readCoordinate()) {
                return false;
            }
            ys[k] = number;
            if (!skip(sign) || tape.digit(at) < 0) {
                return false;
            }
            colours[k] = tape.digit(at);
            at++;
            return true;
        }

        private boolean readCoordinate() {
            boolean below = skip('-');
            int value = tape.digit(at);
            if (value < 0 || (below && value == 0)) {
                return false;
            }
            at++;
            if (value > 0 && tape.digit(at) >= 0) {
                value = 10 * value + tape.digit(at);
                if (value > MOST_COORDINATE) {
                    return false;
                }
                at++;
            }
            number = below ? -value : value;
            return true;
        }

        boolean isRing() {
            for (int k = 0; k < corners; k++) {
                int n = next(k);
                if (x[k] == x[n] && y[k] == y[n]) {
                    return false;
                }
            }
            for (int k = 0; k < corners; k++) {
                for (int m = k + 1; m < corners; m++) {
                    if (meetWrongly(k, m)) {
                        return false;
                    }
                }
            }
            return twiceArea() > 0;
        }

        int next(int k) {
            return k + 1 < corners ? k + 1 : 0;
        }

        int twiceArea() {
            int sum = 0;
            for (int k = 0; k < corners; k++) {
                int n = next(k);
                sum += x[k] * y[n] - x[n] * y[k];
            }
            return sum;
        }

        int least(int[] coordinates) {
            int found = coordinates[0];
            for (int k = 1; k < corners; k++) {
                found = Math.min(found, coordinates[k]);
            }
            return found;
        }

        int most(int[] coordinates) {
            int found = coordinates[0];
            for (int k = 1; k < corners; k++) {
                found = Math.max(found, coordinates[k]);
            }
            return found;
        }

        private boolean meetWrongly(int k, int m) {
            if (next(k) == m) {
                return foldsBack(k, m);
            }
            return next(m) == k ? foldsBack(m, k) : cross(k, m);
        }

        /** Neighbours have more than their corner in common just if the second goes back along the first. */
        private boolean foldsBack(int first, int second) {
            int ax = x[next(first)] - x[first];
            int ay = y[next(first)] - y[first];
            int bx = x[next(second)] - x[second];
            int by = y[next(second)] - y[second];
            return ax * by - ay * bx == 0 && ax * bx + ay * by < 0;
        }

        private boolean cross(int k, int m) {
            int a = side(k, m);
            int b = side(k, next(m));
            int c = side(m, k);
            int d = side(m, next(k));
            if (a * b < 0 && c * d < 0) {
                return true;
            }
            return (a == 0 && spans(k, m)) || (b == 0 && spans(k, next(m)))
                || (c == 0 && spans(m, k)) || (d == 0 && spans(m, next(k)));
        }

        /** On which side of an edge's line a corner lies: 1, 0, -1. */
        private int side(int edge, int corner) {
            int n = next(edge);
            int turn = (x[n] - x[edge]) * (y[corner] - y[edge]) - (y[n] - y[edge]) * (x[corner] - x[edge]);
            return Integer.compare(turn, 0);
        }

        /** Whether a corner on an edge's line lies between its ends. */
        private boolean spans(int edge, int corner) {
            int n = next(edge);
            return Math.min(x[edge], x[n]) <= x[corner] && x[corner] <= Math.max(x[edge], x[n])
                && Math.min(y[edge], y[n]) <= y[corner] && y[corner] <= Math.max(y[edge], y[n]);
        }

        /** Whether the cell's middle lies within the ring; all is doubled to stay whole. */
        boolean holdsCell(int cellX, int cellY) {
            int px = 2 * cellX + 1;
            int py = 2 * cellY + 1;
            boolean within = false;
            for (int k = 0; k < corners; k++) {
                int n = next(k);
                boolean up = 2 * y[n] > py;
                if ((2 * y[k] > py) != up) {
                    int turn = (x[n] - x[k]) * (py - 2 * y[k]) - (y[n] - y[k]) * (px - 2 * x[k]);
                    if (turn == 0) {
                        return false;
                    }
                    if ((turn > 0) == up) {
                        within = !within;
                    }
                }
            }
            return within;
        }

        boolean hasGoodSpots() {
            for (int k = 0; k < spots; k++) {
                if (!holdsCell(spotX[k], spotY[k])) {
                    return false;
                }
                for (int m = 0; m < k; m++) {
                    if (spotX[m] == spotX[k] && spotY[m] == spotY[k]) {
                        return false;
                    }
                }
            }
            return true;
        }
    }

    /** A bit, with its cells in each of the four turns. */
    private static final class Bit {
        /** Cells lie at -20 .. 19 both ways, turned ones too. */
        private static final int SIDE = 40;
        private static final int MIDDLE = 20;
        final int thick;
        final int straw;
        final int plaster;
        final int edges;
        final int[] cornerX;
        final int[] cornerY;
        final int[] colour;
        final int spots;
        final int[] spotX;
        final int[] spotY;
        final int[] spotColour;
        final int twiceArea;
        final int cells;
        /** For each turn a row of cells for each y; x is the place in the long. */
        private final long[] rows = new long[4 * SIDE];

        Bit(Sketch sketch, int thick, int straw, int plaster) {
            this.thick = thick;
            this.straw = straw;
            this.plaster = plaster;
            edges = sketch.corners;
            cornerX = sketch.x.clone();
            cornerY = sketch.y.clone();
            colour = sketch.colour.clone();
            spots = sketch.spots;
            spotX = sketch.spotX.clone();
            spotY = sketch.spotY.clone();
            spotColour = sketch.spotColour.clone();
            twiceArea = sketch.twiceArea();
            int found = 0;
            int endX = sketch.most(sketch.x);
            int endY = sketch.most(sketch.y);
            for (int x = sketch.least(sketch.x); x < endX; x++) {
                for (int y = sketch.least(sketch.y); y < endY; y++) {
                    if (sketch.holdsCell(x, y)) {
                        found++;
                        markCell(x, y);
                    }
                }
            }
            cells = found;
        }

        private void markCell(int x, int y) {
            for (int t = 0; t < 4; t++) {
                int row = t * SIDE + MIDDLE + Place.cellY(t, x, y);
                rows[row] |= 1L << (MIDDLE + Place.cellX(t, x, y));
            }
        }

        int next(int k) {
            return k + 1 < edges ? k + 1 : 0;
        }

        /** How many cells this one, turned by t, has in common with one turned by u and then shifted. */
        int common(int t, Bit other, int u, int x, int y) {
            if (x <= -SIDE || x >= SIDE || y <= -SIDE || y >= SIDE) {
                return 0;
            }
            int sum = 0;
            int end = Math.min(SIDE, SIDE + y);
            for (int row = Math.max(0, y); row < end; row++) {
                long theirs = other.rows[u * SIDE + row - y];
                long shifted = x >= 0 ? theirs << x : theirs >>> -x;
                sum += Long.bitCount(rows[t * SIDE + row] & shifted);
            }
            return sum;
        }

        /** Whether it, turned by t, has the cell (x, y). */
        boolean hasCell(int t, long x, long y) {
            if (x < -MIDDLE || x >= MIDDLE || y < -MIDDLE || y >= MIDDLE) {
                return false;
            }
            return (rows[t * SIDE + MIDDLE + (int) y] >> (MIDDLE + (int) x) & 1) != 0;
        }

        /** The turn of the other one by which its edge goes the way of this one's backward, or -1. */
        int turnFor(int edge, Bit other, int otherEdge) {
            int n = next(edge);
            int m = other.next(otherEdge);
            int backX = cornerX[edge] - cornerX[n];
            int backY = cornerY[edge] - cornerY[n];
            int wayX = other.cornerX[m] - other.cornerX[otherEdge];
            int wayY = other.cornerY[m] - other.cornerY[otherEdge];
            if (wayX == backX && wayY == backY) {
                return 0;
            }
            if (-wayY == backX && wayX == backY) {
                return 1;
            }
            if (-wayX == backX && -wayY == backY) {
                return 2;
            }
            return wayY == backX && -wayX == backY ? 3 : -1;
        }
    }

    /** The bits, and which of their edges fit. */
    private static final class Fits {
        /** Keys of fits: the score's lack, times this, and 10 times the bit, and the edge. */
        static final int STEP = 1000;
        private static final int ABOVE_SCORES = 40;
        final Bit[] bits = new Bit[MOST_BITS];
        int count;
        int allowed;
        final int[] like = new int[100];
        final int[] keys = new int[MOST_BITS * MOST_CORNERS];

        Fits() {
            for (int colour = 0; colour < 10; colour++) {
                like[11 * colour] = 9;
            }
        }

        void addBit(Bit bit) {
            if (count < MOST_BITS) {
                bits[count] = bit;
                count++;
            }
        }

        int allBits() {
            return (1 << count) - 1;
        }

        /** How B is placed against A by the fit, or NOWHERE. */
        long fitting(int a, int edge, int b, int other) {
            Bit one = bits[a];
            Bit two = bits[b];
            int t = a == b || one.plaster != two.plaster ? -1 : one.turnFor(edge, two, other);
            if (t < 0) {
                return Place.NOWHERE;
            }
            int end = one.next(edge);
            int x = one.cornerX[end] - Place.turnedX(t, two.cornerX[other], two.cornerY[other]);
            int y = one.cornerY[end] - Place.turnedY(t, two.cornerX[other], two.cornerY[other]);
            return one.common(0, two, t, x, y) <= allowed ? Place.of(t, x, y) : Place.NOWHERE;
        }

        int scoreOf(int a, int edge, int b, int other, int t) {
            Bit one = bits[a];
            Bit two = bits[b];
            int sum = 2 * like[10 * one.colour[edge] + two.colour[other]];
            sum += Math.max(0, 9 - Math.abs(one.thick - two.thick));
            if (one.straw >= 0 && two.straw >= 0 && one.straw == ((two.straw + 2 * t) & 3)) {
                sum += 5;
            }
            return sum;
        }

        /** Fills keys with the fits of an edge in their order; how many. */
        int collect(int a, int edge) {
            int found = 0;
            for (int b = 0; b < count; b++) {
                for (int other = 0; other < bits[b].edges; other++) {
                    long how = fitting(a, edge, b, other);
                    if (how >= 0) {
                        insert(found, keyOf(scoreOf(a, edge, b, other, Place.turn(how)), b, other));
                        found++;
                    }
                }
            }
            return found;
        }

        private static int keyOf(int score, int b, int other) {
            return (ABOVE_SCORES - score) * STEP + 10 * b + other;
        }

        private void insert(int found, int key) {
            int at = found;
            while (at > 0 && keys[at - 1] > key) {
                keys[at] = keys[at - 1];
                at--;
            }
            keys[at] = key;
        }

        /** The first other fit of A's edge that is no worse than this one: 10 times the bit, and the edge; or -1. */
        int rivalOf(int a, int edge, int b, int other) {
            int t = bits[a].turnFor(edge, bits[b], other);
            int own = keyOf(scoreOf(a, edge, b, other, t), b, other);
            int worst = own / STEP * STEP + STEP - 1;
            int first = worst + 1;
            for (int c = 0; c < count; c++) {
                for (int third = 0; third < bits[c].edges; third++) {
                    int turn = bits[a].turnFor(edge, bits[c], third);
                    int key = keyOf(scoreOf(a, edge, c, third, turn), c, third);
                    if (key != own && key < first && fitting(a, edge, c, third) >= 0) {
                        first = key;
                    }
                }
            }
            return first > worst ? -1 : first % STEP;
        }

        boolean isBestBothWays(int a, int edge, int b, int other) {
            return fitting(a, edge, b, other) >= 0 && rivalOf(a, edge, b, other) < 0
                && rivalOf(b, other, a, edge) < 0;
        }

        /** Whether two bits, each as it is placed, overlap by more than is allowed. */
        boolean collide(int a, long placeA, int b, long placeB) {
            int x = Place.x(placeB) - Place.x(placeA);
            int y = Place.y(placeB) - Place.y(placeA);
            return bits[a].common(Place.turn(placeA), bits[b], Place.turn(placeB), x, y) > allowed;
        }
    }

    /** The joins, the groups that they make, and the ways along them; sets of bits and of joins are masks. */
    private static final class Joins {
        final int[] bitA = new int[MOST_JOINS];
        final int[] edgeA = new int[MOST_JOINS];
        final int[] bitB = new int[MOST_JOINS];
        final int[] edgeB = new int[MOST_JOINS];
        int made;
        long there;
        final int[] group = new int[MOST_BITS];
        /** How many joins each bit is away from where measure() was told; -1: it is not led there. */
        final int[] away = new int[MOST_BITS];
        final int[] steps = new int[MOST_BITS];

        void addBit(int bit) {
            group[bit] = 1 << bit;
        }

        boolean isThere(int join) {
            return join >= 0 && join < made && isIn(there, join);
        }

        static boolean isIn(long set, int join) {
            return (set >> join & 1) != 0;
        }

        boolean isTaken(int bit, int edge) {
            for (int j = 0; j < made; j++) {
                boolean asA = bitA[j] == bit && edgeA[j] == edge;
                boolean asB = bitB[j] == bit && edgeB[j] == edge;
                if (isIn(there, j) && (asA || asB)) {
                    return true;
                }
            }
            return false;
        }

        int add(int a, int edge, int b, int other) {
            int number = made;
            bitA[number] = a;
            edgeA[number] = edge;
            bitB[number] = b;
            edgeB[number] = other;
            made++;
            there |= 1L << number;
            regroup(group[a] | group[b]);
            return number;
        }

        void remove(int join) {
            there &= ~(1L << join);
            regroup(group[bitA[join]]);
        }

        private void regroup(int set) {
            for (int bit = 0; bit < MOST_BITS; bit++) {
                if ((set >> bit & 1) != 0) {
                    group[bit] = reach(1 << bit, there);
                }
            }
        }

        /** All bits to which some joins lead from a set. */
        int reach(int from, long allowed) {
            int reached = from;
            for (int round = 0; round < MOST_BITS; round++) {
                int before = reached;
                for (int j = 0; j < made; j++) {
                    int ends = 1 << bitA[j] | 1 << bitB[j];
                    if (isIn(allowed, j) && (reached & ends) != 0) {
                        reached |= ends;
                    }
                }
                if (reached == before) {
                    return reached;
                }
            }
            return reached;
        }

        int countAt(int bit) {
            int sum = 0;
            for (int j = 0; j < made; j++) {
                if (isIn(there, j) && (bitA[j] == bit || bitB[j] == bit)) {
                    sum++;
                }
            }
            return sum;
        }

        int countIn(int set) {
            int sum = 0;
            for (int j = 0; j < made; j++) {
                if (isIn(there, j) && (set >> bitA[j] & 1) != 0) {
                    sum++;
                }
            }
            return sum;
        }

        int countGroups(int bits) {
            int sum = 0;
            for (int bit = 0; bit < bits; bit++) {
                if (Integer.numberOfTrailingZeros(group[bit]) == bit) {
                    sum++;
                }
            }
            return sum;
        }

        void measure(int to, long allowed) {
            for (int bit = 0; bit < MOST_BITS; bit++) {
                away[bit] = -1;
            }
            away[to] = 0;
            for (int far = 0; far < MOST_BITS; far++) {
                for (int j = 0; j < made; j++) {
                    if (isIn(allowed, j)) {
                        spread(bitA[j], bitB[j], far);
                        spread(bitB[j], bitA[j], far);
                    }
                }
            }
        }

        private void spread(int from, int to, int far) {
            if (away[from] == far && away[to] < 0) {
                away[to] = far + 1;
            }
        }

        /** Fills steps with the least of the shortest ways to where measure() was told; how many they are. */
        int walk(int from, long allowed) {
            int here = from;
            int done = 0;
            for (int left = away[from] - 1; left >= 0; left--) {
                for (int j = 0; j < made; j++) {
                    int beyond = isIn(allowed, j) ? otherEnd(j, here) : -1;
                    if (beyond >= 0 && away[beyond] == left) {
                        steps[done] = j;
                        done++;
                        here = beyond;
                        break;
                    }
                }
            }
            return done;
        }

        private int otherEnd(int join, int bit) {
            if (bitA[join] == bit) {
                return bitB[join];
            }
            return bitB[join] == bit ? bitA[join] : -1;
        }
    }

    /** Where the bits are: on the wall, or else against the others of their group. */
    private static final class Wall {
        private final Fits fits;
        private final Joins joins;
        final long[] place = new long[MOST_BITS];
        int words;
        int puts;
        int clashKind;
        int clashFirst;
        int clashSecond;
        int clashSize;
        final int[] clashJoins = new int[2 * MOST_BITS];

        Wall(Fits fits, Joins joins) {
            this.fits = fits;
            this.joins = joins;
            for (int bit = 0; bit < MOST_BITS; bit++) {
                place[bit] = Place.HERE;
            }
        }

        boolean hasWord(int bit) {
            return (words >> bit & 1) != 0;
        }

        boolean groupHasWord(int bit) {
            return (words & joins.group[bit]) != 0;
        }

        boolean stands(int bit) {
            return ((words | puts) & joins.group[bit]) != 0;
        }

        /** All bits on the wall. */
        int standing() {
            int set = 0;
            for (int bit = 0; bit < fits.count; bit++) {
                if (stands(bit)) {
                    set |= 1 << bit;
                }
            }
            return set;
        }

        int bitAt(int x, int y) {
            for (int bit = 0; bit < fits.count; bit++) {
                long here = place[bit];
                if (stands(bit)
                    && fits.bits[bit].hasCell(Place.turn(here), (long) x - Place.x(here), (long) y - Place.y(here))) {
                    return bit;
                }
            }
            return NONE;
        }

        /** Brings the groups of two bits that are about to be joined together: 0, or the CLASH. */
        int attach(int a, int b, long how) {
            int ofA = joins.group[a];
            int ofB = joins.group[b];
            if (ofA == ofB) {
                return Place.against(place[a], place[b]) == how ? 0 : tellBetween(1, a, b, a, b);
            }
            long move = Place.move(place[a], Place.onto(place[b], Place.inverse(how)));
            int hit = firstHit(ofA, move, ofB);
            if (hit >= 0) {
                return tellAround(2, hit / MOST_BITS, a, b, hit % MOST_BITS);
            }
            if (stands(a) && stands(b)) {
                return move == Place.HERE ? 0 : tellAround(3, anchorOf(ofA), a, b, anchorOf(ofB));
            }
            if (stands(a)) {
                return attachTo(ofB, Place.inverse(move), standing() & ~ofA);
            }
            return attachTo(ofA, move, stands(b) ? standing() & ~ofB : 0);
        }

        private int attachTo(int group, long move, int others) {
            int hit = firstHit(group, move, others);
            if (hit >= 0) {
                return tell(5, hit / MOST_BITS, hit % MOST_BITS);
            }
            carry(group, move);
            return 0;
        }

        /** The first pair of a moved set's bits and others that overlap: MOST_BITS times the one, and the other; or -1. */
        private int firstHit(int movers, long move, int others) {
            for (int i = 0; i < fits.count; i++) {
                if ((movers >> i & 1) != 0) {
                    long moved = Place.onto(move, place[i]);
                    for (int k = 0; k < fits.count; k++) {
                        if ((others >> k & 1) != 0 && fits.collide(i, moved, k, place[k])) {
                            return MOST_BITS * i + k;
                        }
                    }
                }
            }
            return -1;
        }

        private void carry(int group, long move) {
            for (int bit = 0; bit < fits.count; bit++) {
                if ((group >> bit & 1) != 0) {
                    place[bit] = Place.onto(move, place[bit]);
                }
            }
        }

        /** The bit by which a group stands. */
        private int anchorOf(int group) {
            int by = (words & group) != 0 ? words & group : puts & group;
            return Integer.numberOfTrailingZeros(by);
        }

        private int tell(int kind, int first, int second) {
            clashKind = kind;
            clashFirst = first;
            clashSecond = second;
            clashSize = 0;
            return kind;
        }

        private int tellBetween(int kind, int first, int second, int from, int to) {
            tell(kind, first, second);
            tellWay(from, to);
            return kind;
        }

        private int tellAround(int kind, int first, int a, int b, int second) {
            tell(kind, first, second);
            tellWay(first, a);
            tellWay(b, second);
            return kind;
        }

        private void tellWay(int from, int to) {
            joins.measure(to, joins.there);
            int steps = joins.walk(from, joins.there);
            for (int k = 0; k < steps; k++) {
                clashJoins[clashSize] = joins.steps[k];
                clashSize++;
            }
        }

        /** A hand's word: 0, or the CLASH. */
        int say(int bit, long wanted) {
            int group = joins.group[bit];
            int others = words & group & ~(1 << bit);
            if (others != 0 && place[bit] != wanted) {
                int first = Integer.numberOfTrailingZeros(others);
                return tellBetween(4, first, bit, first, bit);
            }
            int kind = bring(bit, wanted);
            if (kind == 0) {
                words |= 1 << bit;
                puts &= ~group;
            }
            return kind;
        }

        void takeBack(int bit) {
            words &= ~(1 << bit);
            if (!groupHasWord(bit)) {
                putBy(bit);
            }
        }

        /** A group is put by one of its bits: 0, or the CLASH. */
        int lay(int bit, long wanted) {
            int kind = bring(bit, wanted);
            if (kind == 0) {
                putBy(bit);
            }
            return kind;
        }

        private void putBy(int bit) {
            puts = puts & ~joins.group[bit] | 1 << bit;
        }

        private int bring(int bit, long wanted) {
            int group = joins.group[bit];
            return attachTo(group, Place.move(place[bit], wanted), standing() & ~group);
        }

        private long bestJoins() {
            long set = 0;
            for (int j = 0; j < joins.made; j++) {
                if (joins.isThere(j)
                    && fits.isBestBothWays(joins.bitA[j], joins.edgeA[j], joins.bitB[j], joins.edgeB[j])) {
                    set |= 1L << j;
                }
            }
            return set;
        }

        int proved() {
            return words == 0 ? 0 : joins.reach(words, bestJoins());
        }

        /** Fills the joins' steps with a bit's proof: how many, or -1. */
        int prove(int bit) {
            if (!groupHasWord(bit)) {
                return -1;
            }
            long allowed = bestJoins();
            joins.measure(bit, allowed);
            int from = -1;
            for (int k = 0; k < fits.count; k++) {
                boolean led = hasWord(k) && joins.away[k] >= 0;
                if (led && (from < 0 || joins.away[k] < joins.away[from])) {
                    from = k;
                }
            }
            return from < 0 ? -1 : joins.walk(from, allowed);
        }
    }

    /** The photograph, with the colours near each cell. */
    private static final class Photo {
        static final int MOST_DOUBT = 3;
        private static final int MOST_SIDE = 16;
        /** Cells up to the greatest doubt outside of it may agree, too. */
        private static final int WIDE = MOST_SIDE + 2 * MOST_DOUBT;
        private final int[] near = new int[WIDE * WIDE];
        private int width;
        private int height;
        private int left;
        private int low;
        private int colours;
        int bestAgreeing;
        int rivals;
        long bestPlace;

        boolean isThere() {
            return width > 0;
        }

        int countColours() {
            return Integer.bitCount(colours);
        }

        /** The FAULT, or -1. */
        int faultOf(Tape tape) {
            int row = 0;
            int column = 0;
            int longest = MOST_SIDE;
            for (int at = 0; at < tape.size; at++) {
                int sign = tape.peek(at);
                if (sign == '.' || tape.digit(at) >= 0) {
                    if (column == longest) {
                        return at;
                    }
                    column++;
                } else if (sign == '/' && isWhole(row, column, longest) && row + 1 < MOST_SIDE) {
                    longest = column;
                    row++;
                    column = 0;
                } else {
                    return at;
                }
            }
            return isWhole(row, column, longest) ? -1 : tape.size;
        }

        private static boolean isWhole(int row, int column, int longest) {
            return row == 0 ? column > 0 : column == longest;
        }

        /** The tape has no FAULT then. */
        void take(Tape tape, int x, int y, int doubt) {
            width = 0;
            while (width < tape.size && tape.peek(width) != '/') {
                width++;
            }
            height = (tape.size + 1) / (width + 1);
            left = x;
            low = y;
            colours = 0;
            for (int k = 0; k < WIDE * WIDE; k++) {
                near[k] = 0;
            }
            for (int row = 0; row < height; row++) {
                for (int column = 0; column < width; column++) {
                    int colour = tape.digit(row * (width + 1) + column);
                    if (colour >= 0) {
                        colours |= 1 << colour;
                        spreadColour(column, height - 1 - row, 1 << colour, doubt);
                    }
                }
            }
        }

        private void spreadColour(int column, int row, int colour, int doubt) {
            for (int r = row - doubt; r <= row + doubt; r++) {
                for (int c = column - doubt; c <= column + doubt; c++) {
                    near[(r + MOST_DOUBT) * WIDE + c + MOST_DOUBT] |= colour;
                }
            }
        }

        int countAgreeing(Bit bit, int t, int x, int y) {
            int sum = 0;
            for (int k = 0; k < bit.spots; k++) {
                int column = Place.cellX(t, bit.spotX[k], bit.spotY[k]) + x - left + MOST_DOUBT;
                int row = Place.cellY(t, bit.spotX[k], bit.spotY[k]) + y - low + MOST_DOUBT;
                boolean within = column >= 0 && column < WIDE && row >= 0 && row < WIDE;
                if (within && (near[row * WIDE + column] >> bit.spotColour[k] & 1) != 0) {
                    sum++;
                }
            }
            return sum;
        }

        /** Looks for the best placing; whether there is one. */
        boolean search(Bit bit) {
            bestAgreeing = -1;
            rivals = 0;
            if (bit.spots == 0) {
                return false;
            }
            for (int t = 0; t < 4; t++) {
                searchTurned(bit, t);
            }
            return bestAgreeing >= 0;
        }

        private void searchTurned(Bit bit, int t) {
            int lowX = Place.cellX(t, bit.spotX[0], bit.spotY[0]);
            int lowY = Place.cellY(t, bit.spotX[0], bit.spotY[0]);
            int highX = lowX;
            int highY = lowY;
            for (int k = 1; k < bit.spots; k++) {
                int x = Place.cellX(t, bit.spotX[k], bit.spotY[k]);
                int y = Place.cellY(t, bit.spotX[k], bit.spotY[k]);
                lowX = Math.min(lowX, x);
                lowY = Math.min(lowY, y);
                highX = Math.max(highX, x);
                highY = Math.max(highY, y);
            }
            for (int y = low - lowY; y < low + height - highY; y++) {
                for (int x = left - lowX; x < left + width - highX; x++) {
                    compare(countAgreeing(bit, t, x, y), Place.of(t, x, y));
                }
            }
        }

        private void compare(int agreeing, long place) {
            if (agreeing > bestAgreeing) {
                bestAgreeing = agreeing;
                bestPlace = place;
                rivals = 0;
            } else if (agreeing == bestAgreeing) {
                rivals++;
            }
        }
    }

    /** Arrangements of two or three bits. */
    private static final class Arranger {
        private static final int MOST_PAIRS = MOST_CORNERS * MOST_CORNERS;
        /** The three lists of placings by fits: second against first, third against first, third against second. */
        private static final int SECOND = 0, THIRD = 1, BETWEEN = 2;
        private final Fits fits;
        private final long[] how = new long[3 * MOST_PAIRS];
        private final int[] worth = new int[3 * MOST_PAIRS];
        private final int[] size = new int[3];
        private final int[] bit = new int[3];
        private long trySecond;
        private long tryThird;
        int bestWorth;
        private int told;
        private long toldSecond;
        private long toldThird;

        Arranger(Fits fits) {
            this.fits = fits;
        }

        boolean holds(int number) {
            return (told >> number & 1) != 0;
        }

        long placeOf(int number) {
            int before = Integer.bitCount(told & ((1 << number) - 1));
            if (before == 0) {
                return Place.HERE;
            }
            return before == 1 ? toldSecond : toldThird;
        }

        /** Looks for the best arrangement of two or three bits; whether there is one. */
        boolean solve(int set) {
            int rest = set;
            for (int k = 0; k < 3; k++) {
                bit[k] = rest == 0 ? -1 : Integer.numberOfTrailingZeros(rest);
                rest &= rest - 1;
            }
            bestWorth = -1;
            list(SECOND, bit[0], bit[1]);
            if (bit[2] < 0) {
                solveTwo();
            } else {
                list(THIRD, bit[0], bit[2]);
                list(BETWEEN, bit[1], bit[2]);
                solveThree();
            }
            if (bestWorth < 0) {
                return false;
            }
            told = set;
            toldSecond = trySecond;
            toldThird = tryThird;
            return true;
        }

        /** Lists each placing of b against a by a fit, with the scores of all its fits. */
        private void list(int which, int a, int b) {
            size[which] = 0;
            for (int edge = 0; edge < fits.bits[a].edges; edge++) {
                for (int other = 0; other < fits.bits[b].edges; other++) {
                    long found = fits.fitting(a, edge, b, other);
                    if (found >= 0) {
                        enlist(which, found, fits.scoreOf(a, edge, b, other, Place.turn(found)));
                    }
                }
            }
        }

        private void enlist(int which, long found, int score) {
            int at = indexOf(which, found);
            if (at < 0) {
                at = which * MOST_PAIRS + size[which];
                how[at] = found;
                worth[at] = 0;
                size[which]++;
            }
            worth[at] += score;
        }

        private int indexOf(int which, long place) {
            int begin = which * MOST_PAIRS;
            for (int k = begin; k < begin + size[which]; k++) {
                if (how[k] == place) {
                    return k;
                }
            }
            return -1;
        }

        private void solveTwo() {
            for (int k = 0; k < size[SECOND]; k++) {
                offer(worth[k], how[k], Place.HERE);
            }
        }

        private void solveThree() {
            for (int i = 0; i < size[SECOND]; i++) {
                for (int k = 0; k < size[THIRD]; k++) {
                    consider(how[i], how[THIRD * MOST_PAIRS + k]);
                }
            }
            for (int k = 0; k < size[BETWEEN]; k++) {
                long between = how[BETWEEN * MOST_PAIRS + k];
                long back = Place.inverse(between);
                for (int i = 0; i < size[SECOND]; i++) {
                    consider(how[i], Place.onto(how[i], between));
                }
                for (int i = 0; i < size[THIRD]; i++) {
                    long third = how[THIRD * MOST_PAIRS + i];
                    consider(Place.onto(third, back), third);
                }
            }
        }

        private void consider(long second, long third) {
            int atSecond = indexOf(SECOND, second);
            int atThird = indexOf(THIRD, third);
            int atBetween = indexOf(BETWEEN, Place.against(second, third));
            int sum = worthAt(atSecond) + worthAt(atThird) + worthAt(atBetween);
            if (!isBetter(sum, second, third)) {
                return;
            }
            // Bits that are placed by a fit can't overlap too much, the others may.
            boolean collides = (atSecond < 0 && fits.collide(bit[0], Place.HERE, bit[1], second))
                || (atThird < 0 && fits.collide(bit[0], Place.HERE, bit[2], third))
                || (atBetween < 0 && fits.collide(bit[1], second, bit[2], third));
            if (!collides) {
                offer(sum, second, third);
            }
        }

        private int worthAt(int index) {
            return index < 0 ? 0 : worth[index];
        }

        private boolean isBetter(int sum, long second, long third) {
            if (sum != bestWorth) {
                return sum > bestWorth;
            }
            return second < trySecond || (second == trySecond && third < tryThird);
        }

        private void offer(int sum, long second, long third) {
            if (isBetter(sum, second, third)) {
                bestWorth = sum;
                trySecond = second;
                tryThird = third;
            }
        }
    }

    /** Reads questions; a set of bits is a mask, and the brackets that stand open are kept in rows, not in calls. */
    private static final class Question {
        private final Fits fits;
        private final Joins joins;
        private final Boxes boxes;
        private final int[] terms = new int[Tape.MOST + 1];
        private final int[] factors = new int[Tape.MOST + 1];
        private final boolean[] negated = new boolean[Tape.MOST + 1];
        private int depth;
        private int all;
        private int standing;
        private int proved;
        int answer;

        Question(Fits fits, Joins joins, Boxes boxes) {
            this.fits = fits;
            this.joins = joins;
            this.boxes = boxes;
        }

        /** The FAULT, or -1: then answer has the bits for which it is so. */
        int readTape(Tape tape, int bitsStanding, int bitsProved) {
            all = fits.allBits();
            standing = bitsStanding;
            proved = bitsProved;
            depth = -1;
            open();
            boolean wanted = true;
            int at = 0;
            // Each round goes on by a byte at least.
            for (int round = 0; round < Tape.MOST && at < tape.size; round++) {
                int sign = tape.peek(at);
                int end = wanted ? readFactor(tape, at, sign) : readBehind(at, sign);
                if (end <= at) {
                    return -end;
                }
                wanted = wanted ? sign == '!' || sign == '(' : sign != ')';
                at = end;
            }
            if (wanted || depth > 0) {
                return tape.size;
            }
            answer = terms[0] | factors[0];
            return -1;
        }

        private void open() {
            depth++;
            terms[depth] = 0;
            factors[depth] = all;
            negated[depth] = false;
        }

        private void close(int set) {
            int so = negated[depth] ? all & ~set : set;
            factors[depth] &= so;
            negated[depth] = false;
        }

        /** Where it goes on behind what begins a factor; at a fault 0 less its place. */
        private int readFactor(Tape tape, int at, int sign) {
            if (sign == '!') {
                negated[depth] = !negated[depth];
                return at + 1;
            }
            if (sign == '(') {
                open();
                return at + 1;
            }
            return readComparison(tape, at, sign);
        }

        private int readBehind(int at, int sign) {
            if (sign == '|') {
                terms[depth] |= factors[depth];
                factors[depth] = all;
                return at + 1;
            }
            if (sign == ')' && depth > 0) {
                depth--;
                close(terms[depth + 1] | factors[depth + 1]);
                return at + 1;
            }
            return sign == '&' ? at + 1 : -at;
        }

        private int readComparison(Tape tape, int at, int letter) {
            if (!isLetter(letter)) {
                return -at;
            }
            int sign = tape.peek(at + 1);
            if (sign != '<' && sign != '=' && sign != '>') {
                return -at - 1;
            }
            int number = tape.digit(at + 2);
            if (number < 0) {
                return -at - 2;
            }
            int end = at + 3;
            while (end < at + 5 && number > 0 && tape.digit(end) >= 0) {
                number = 10 * number + tape.digit(end);
                end++;
            }
            close(compareAll(letter, sign, number));
            return end;
        }

        private static boolean isLetter(int sign) {
            switch (sign) {
                case 't': case 's': case 'p': case 'e': case 'n': case 'c':
                case 'j': case 'g': case 'w': case 'v': case 'b':
                    return true;
                default:
                    return false;
            }
        }

        private int compareAll(int letter, int sign, int number) {
            int wanted = sign - '=';
            int set = 0;
            for (int bit = 0; bit < fits.count; bit++) {
                int order = Integer.compare(valueOf(letter, bit), number);
                if (order == wanted) {
                    set |= 1 << bit;
                }
            }
            return set;
        }

        private int valueOf(int letter, int bit) {
            Bit one = fits.bits[bit];
            switch (letter) {
                case 't': return one.thick;
                case 's': return one.straw < 0 ? 9 : one.straw;
                case 'p': return one.plaster;
                case 'e': return one.edges;
                case 'n': return one.cells;
                case 'c': return one.spots;
                case 'j': return joins.countAt(bit);
                case 'g': return Integer.bitCount(joins.group[bit]);
                case 'w': return standing >> bit & 1;
                case 'v': return proved >> bit & 1;
                default:
                    int box = boxes.boxNow(bit);
                    return box < 0 ? 99 : box;
            }
        }
    }

    /** Entries of boxes, and which hand sorts which box. */
    private static final class Boxes {
        static final int BOXES = 10;
        static final int HANDS = 6;
        private static final int MOST_ENTRIES = 100;
        private static final int SETS = 1 << BOXES;
        int count;
        private final int[] entryBit = new int[MOST_ENTRIES];
        private final int[] entryBox = new int[MOST_ENTRIES];
        private final int[] entryDay = new int[MOST_ENTRIES];
        final int[] skills = new int[HANDS * 10];
        private final int[] worth = new int[HANDS * BOXES];
        /** The most that this hand and those behind it can have together, for each set of boxes that are gone. */
        private final int[] most = new int[(HANDS + 1) * SETS];
        final int[] boxOfHand = new int[HANDS];

        boolean isFull() {
            return count >= MOST_ENTRIES;
        }

        int addEntry(int bit, int box, int day) {
            if (!isFull()) {
                entryBit[count] = bit;
                entryBox[count] = box;
                entryDay[count] = day;
                count++;
            }
            return count;
        }

        /** The box, or -1. */
        int boxOf(int bit, int day, int entries) {
            int box = -1;
            int latest = -1;
            for (int k = 0; k < entries && k < count; k++) {
                if (entryBit[k] == bit && entryDay[k] <= day && entryDay[k] >= latest) {
                    latest = entryDay[k];
                    box = entryBox[k];
                }
            }
            return box;
        }

        int boxNow(int bit) {
            return boxOf(bit, LAST_DAY, count);
        }

        /** Fills boxOfHand; the worth of all together. */
        int shareOut(Fits fits) {
            weigh(fits);
            for (int hand = HANDS - 1; hand >= 0; hand--) {
                for (int gone = 0; gone < SETS; gone++) {
                    if (Integer.bitCount(gone) <= hand) {
                        most[hand * SETS + gone] = mostFor(hand, gone);
                    }
                }
            }
            int gone = 0;
            for (int hand = 0; hand < HANDS; hand++) {
                int box = choose(hand, gone);
                boxOfHand[hand] = box;
                gone |= box < 0 ? 0 : 1 << box;
            }
            return most[0];
        }

        private void weigh(Fits fits) {
            for (int k = 0; k < HANDS * BOXES; k++) {
                worth[k] = 0;
            }
            for (int bit = 0; bit < fits.count; bit++) {
                int box = boxNow(bit);
                for (int hand = 0; box >= 0 && hand < HANDS; hand++) {
                    worth[hand * BOXES + box] += skills[10 * hand + fits.bits[bit].plaster];
                }
            }
        }

        private int mostFor(int hand, int gone) {
            int best = most[(hand + 1) * SETS + gone];
            for (int box = 0; box < BOXES; box++) {
                if ((gone >> box & 1) == 0) {
                    best = Math.max(best, worthWith(hand, box, gone));
                }
            }
            return best;
        }

        private int worthWith(int hand, int box, int gone) {
            return worth[hand * BOXES + box] + most[(hand + 1) * SETS + (gone | 1 << box)];
        }

        private int choose(int hand, int gone) {
            for (int box = 0; box < BOXES; box++) {
                if ((gone >> box & 1) == 0 && worthWith(hand, box, gone) == most[hand * SETS + gone]) {
                    return box;
                }
            }
            return -1;
        }
    }
}
