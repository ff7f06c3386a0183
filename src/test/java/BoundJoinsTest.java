/** Part 3 of the document and promises 14 to 18, sentence by sentence: just inside each bound and just outside it. */
public final class BoundJoinsTest {
    private static final Check CHECK = new Check("BoundJoinsTest");
    private static final int BELOW = -100000;
    private static final int[] FAR = {Integer.MIN_VALUE, -2, -1, Integer.MAX_VALUE};

    public static void main(String[] args) {
        sixtyJoins();
        fullAheadOfAClash();
        anEdgeInOne();
        whateverComesLater();
        joinNone();
        joinOfOneBit();
        joinState();
        groupsLedByJoins();
        otherwiseInOneGroup();
        overlapByTolerance();
        firstThatOverlap();
        bothOnTheWall();
        bothOnTheWallTurned();
        overlapAheadOfTheWall();
        oneOnTheWall();
        firstThatOverlapOnTheWall();
        fewestJoins();
        fewestAmongThree();
        leastOfSeveralWays();
        waysOfJoinsThatAreThere();
        waysOfTwoGroups();
        fromTheLeastWord();
        fromTheLeastThatWasPut();
        undone();
        undoNone();
        offTheWall();
        joinedNone();
        bestNow();
        groupNone();
        groupCounts();
        noClashYet();
        clashNone();
        theLatestClash();
        CHECK.end();
    }

    private static void dueClash(FrescoWall w, int kind, int first, int second, int... joins) {
        CHECK.due("clash 0", w.clash(0), kind);
        CHECK.due("clash 1", w.clash(1), joins.length);
        CHECK.due("clash 2", w.clash(2), first);
        CHECK.due("clash 3", w.clash(3), second);
        for (int i = 0; i < joins.length; i++) {
            CHECK.due("clash " + (10 + i), w.clash(10 + i), joins[i]);
        }
        CHECK.due("clash behind its joins", w.clash(10 + joins.length), -1);
    }

    private static void dueAt(FrescoWall w, int bit, int t, int x, int y) {
        CHECK.due("t of " + bit, w.placed(bit, 0), t);
        CHECK.due("x of " + bit, w.placed(bit, 1), x);
        CHECK.due("y of " + bit, w.placed(bit, 2), y);
    }

    /** Squares that stand in a row by joins from the first to the last. */
    private static FrescoWall row(int n) {
        FrescoWall w = Check.squares(n);
        for (int k = 0; k + 1 < n; k++) {
            CHECK.due("join of the row", w.join(k, 1, k + 1, 3), k);
        }
        return w;
    }

    private static void sixtyJoins() {
        CHECK.of("3: JOINS are numbered from 0 on, 60 at most in all; Promise 14: FULL");
        FrescoWall w = Check.squares(4);
        CHECK.due("the first", w.join(0, 1, 1, 3), 0);
        for (int k = 1; k < 60; k++) {
            CHECK.due("join", w.join(2, 1, 3, 3), k);
            if (k < 59) {
                CHECK.due("undo", w.undo(k), 2);
            }
        }
        CHECK.due("one too many", w.join(1, 1, 2, 3), -4);
        CHECK.due("in all", w.count(8), 60);
        CHECK.due("there", w.count(1), 2);
        CHECK.due("undo", w.undo(59), 2);
        CHECK.due("the undone ones are counted", w.join(2, 1, 3, 3), -4);
        CHECK.due("groups", w.count(2), 3);
        CHECK.due("STATE ahead of FULL", w.join(0, 1, 2, 3), -3);
        CHECK.due("BAD ahead of FULL", w.join(0, 0, 0, 0), -2);
        CHECK.due("NONE ahead of FULL", w.join(0, 4, 1, 0), -1);
        CHECK.due("none told", w.clash(0), -1);
    }

    private static void fullAheadOfAClash() {
        CHECK.of("Promise 14: FULL ahead of a CLASH");
        FrescoWall w = Check.squares(9);
        w.join(0, 1, 1, 3);
        w.join(2, 1, 3, 3);
        w.join(3, 0, 4, 2);
        w.put(5, 0, 40, 40);
        w.put(6, 0, 41, 40);
        for (int k = 3; k < 60; k++) {
            if (k == 59) {
                dueEachKind(w, -11, -12, -13, -15);
            }
            CHECK.due("join", w.join(7, 1, 8, 3), k);
            CHECK.due("undo", w.undo(k), 2);
        }
        dueEachKind(w, -4, -4, -4, -4);
        CHECK.due("the clash is the one that was", w.clash(0), 5);
        CHECK.due("joins", w.count(8), 60);
    }

    private static void dueEachKind(FrescoWall w, int one, int two, int three, int five) {
        CHECK.due("otherwise in one GROUP", w.join(1, 1, 0, 3), one);
        CHECK.due("overlap", w.join(0, 2, 2, 0), two);
        CHECK.due("otherwise on the wall", w.join(5, 0, 6, 2), three);
        CHECK.due("overlap on the wall", w.join(5, 1, 7, 3), five);
    }

    private static void anEdgeInOne() {
        CHECK.of("3: an EDGE is in one at most; Promise 14: STATE: an EDGE is in a JOIN");
        FrescoWall w = Check.squares(4);
        CHECK.due("join", w.join(0, 1, 1, 3), 0);
        CHECK.due("a is in one as a", w.join(0, 1, 2, 3), -3);
        CHECK.due("b is in one as a", w.join(2, 3, 0, 1), -3);
        CHECK.due("a is in one as b", w.join(1, 3, 2, 1), -3);
        CHECK.due("b is in one as b", w.join(2, 1, 1, 3), -3);
        CHECK.due("both are", w.join(0, 1, 1, 3), -3);
        CHECK.due("both are", w.join(1, 3, 0, 1), -3);
        CHECK.due("another edge of it", w.join(0, 2, 2, 0), 1);
        CHECK.due("the same edge of another one", w.join(3, 1, 2, 3), 2);
        w.undo(0);
        CHECK.due("free again", w.join(0, 1, 1, 3), 3);
    }

    private static void whateverComesLater() {
        CHECK.of("3: a FIT that was taken (it may be so whatever comes later)");
        FrescoWall w = new FrescoWall();
        Check.bit(w, "0,0:0;4,0:0;4,2:0;3,2:0;3,1:9;1,1:0;1,2:0;0,2:0", 5, -1, 0);
        Check.bit(w, "0,0:9;2,0:0;5,1:0;-3,1:0", 5, -1, 0);
        w.tolerance(2);
        CHECK.due("join", w.join(0, 4, 1, 0), 0);
        w.put(0, 0, 10, 10);
        w.tolerance(1);
        w.likeness(9, 9, 0);
        CHECK.due("no FIT any more", w.score(0, 4, 1, 0), -3);
        CHECK.due("still there", w.joined(0, 2), 1);
        CHECK.due("still one group", w.group(1, 1), 2);
        CHECK.due("still counted", w.count(1), 1);
        dueAt(w, 1, 0, 11, 11);
        CHECK.due("still in its way", w.put(1, 0, 0, 0), 2);
        dueAt(w, 0, 0, -1, -1);
        CHECK.due("undone", w.undo(0), 2);
        CHECK.due("not again", w.join(0, 4, 1, 0), -3);
    }

    private static void joinNone() {
        CHECK.of("Promise 14: NONE");
        FrescoWall w = Check.squares(2);
        for (int none : new int[] {-1, 4, 8, 30, Integer.MIN_VALUE, Integer.MAX_VALUE}) {
            CHECK.due("A", w.join(none, 0, 1, 0), -1);
            CHECK.due("a", w.join(0, none, 1, 0), -1);
            CHECK.due("B", w.join(0, 0, none, 0), -1);
            CHECK.due("b", w.join(0, 0, 1, none), -1);
            CHECK.due("NONE ahead of BAD", w.join(0, 0, 0, none), -1);
            CHECK.due("NONE ahead of BAD", w.join(0, none, 0, 0), -1);
        }
        CHECK.due("behind the last", w.join(2, 0, 0, 0), -1);
        CHECK.due("behind the last", w.join(0, 0, 2, 0), -1);
        CHECK.due("none made", w.count(8), 0);
        CHECK.due("the last ones", w.join(1, 3, 0, 3), 0);
    }

    private static void joinOfOneBit() {
        CHECK.of("Promise 14: BAD");
        FrescoWall w = Check.squares(2);
        CHECK.due("one BIT", w.join(0, 0, 0, 2), -2);
        CHECK.due("one EDGE", w.join(1, 1, 1, 1), -2);
        w.join(0, 0, 1, 2);
        CHECK.due("BAD ahead of STATE", w.join(0, 0, 0, 2), -2);
    }

    private static void joinState() {
        CHECK.of("Promise 14: STATE: no FIT");
        FrescoWall w = new FrescoWall();
        Check.bit(w, Check.box(2, 1, "0000"), 5, -1, 0);
        Check.bit(w, Check.box(2, 1, "0000"), 5, -1, 0);
        Check.bit(w, Check.box(2, 1, "0000"), 5, -1, 1);
        CHECK.due("length", w.join(0, 0, 1, 1), -3);
        CHECK.due("plaster", w.join(0, 0, 2, 0), -3);
        CHECK.due("none made", w.count(8), 0);
        CHECK.due("a FIT", w.join(0, 0, 1, 0), 0);
    }

    private static void groupsLedByJoins() {
        CHECK.of("3: GROUPS are BITS that JOINS lead to one another, each PLACED against the others by them");
        FrescoWall w = Check.squares(5);
        w.join(4, 1, 1, 2);
        w.join(1, 1, 3, 3);
        CHECK.due("groups", w.count(2), 3);
        int[] least = {0, 1, 2, 1, 1};
        int[] size = {1, 3, 1, 3, 3};
        for (int k = 0; k < 5; k++) {
            CHECK.due("least of " + k, w.group(k, 0), least[k]);
            CHECK.due("size of " + k, w.group(k, 1), size[k]);
        }
        // 1 is right of 4, turned by a quarter, and its right edge is above
        CHECK.due("put", w.put(4, 0, 10, 10), 3);
        dueAt(w, 1, 1, 12, 10);
        dueAt(w, 3, 1, 12, 11);
        CHECK.due("put by another one", w.put(3, 0, 0, 0), 3);
        dueAt(w, 1, 0, -1, 0);
        dueAt(w, 4, 3, -1, 2);
    }

    private static void otherwiseInOneGroup() {
        CHECK.of("3: CLASH: 1: both BITS are in one GROUP, and otherwise to one another");
        FrescoWall w = row(4);
        CHECK.due("otherwise", w.join(3, 1, 0, 3), -11);
        dueClash(w, 1, 3, 0, 2, 1, 0);
        CHECK.due("joins", w.count(8), 3);
        CHECK.due("neighbours, but turned", w.join(0, 2, 1, 2), -11);
        dueClash(w, 1, 0, 1, 0);
        w.undo(1);
        CHECK.due("no longer in one GROUP", w.join(3, 1, 0, 3), 3);
        // four round a point: the last join says what the others say
        FrescoWall v = Check.squares(4);
        v.join(0, 1, 1, 3);
        v.join(1, 2, 2, 0);
        v.join(2, 3, 3, 1);
        CHECK.due("turned", v.join(3, 0, 0, 1), -3);
        CHECK.due("just so, but turned", v.join(3, 0, 0, 3), -11);
        CHECK.due("just so", v.join(3, 0, 0, 2), 3);
        CHECK.due("one GROUP", v.group(0, 1), 4);
    }

    /** Bit 1 is a bar right of bit 0, bit 3 hangs down n wide right of bit 2; joins 0 and 1 hold them. */
    private static FrescoWall hooked(int n) {
        FrescoWall w = new FrescoWall();
        Check.bit(w, Check.box(2, 1, "0000"), 5, -1, 0);
        Check.bit(w, Check.box(9, 1, "0000"), 5, -1, 0);
        Check.bit(w, Check.box(2, 1, "0000"), 5, -1, 0);
        Check.bit(w, "0,0:0;" + n + ",0:0;" + n + ",2:0;0,2:0;0,1:0", 5, -1, 0);
        CHECK.due("bar", w.join(0, 1, 1, 3), 0);
        CHECK.due("hook", w.join(2, 1, 3, 3), 1);
        return w;
    }

    private static void overlapByTolerance() {
        CHECK.of("3: CLASH: 2: they are in two GROUPS, of which a BIT of A's and one of B's would OVERLAP "
            + "by more than TOLERANCE");
        for (int n = 1; n <= 9; n++) {
            FrescoWall w = hooked(n);
            for (int tolerance = 0; tolerance < n; tolerance++) {
                w.tolerance(tolerance);
                CHECK.due("by " + n + " with " + tolerance, w.join(0, 2, 2, 0), -12);
                CHECK.due("the other way", w.join(2, 0, 0, 2), -12);
            }
            CHECK.due("two GROUPS", w.count(2), 2);
            w.tolerance(n);
            CHECK.due("by " + n + " with as much", w.join(0, 2, 2, 0), 2);
            CHECK.due("one GROUP", w.count(2), 1);
        }
        FrescoWall w = hooked(3);
        w.join(2, 0, 0, 2);
        dueClash(w, 2, 3, 1, 1, 0);
        w.join(0, 2, 2, 0);
        dueClash(w, 2, 1, 3, 0, 1);
    }

    private static void firstThatOverlap() {
        CHECK.of("3: CLASH: 2 (the first such, by A's, then by B's numbers)");
        FrescoWall w = row(3);
        for (int k = 0; k < 5; k++) {
            Check.bit(w, Check.box(1, 1, "0000"), 5, -1, 0);
        }
        // 3, 6, 7 above 0, 1, 2; 5 hangs down to 1 and 4 to 2
        w.join(3, 1, 6, 3);
        w.join(6, 1, 7, 3);
        w.join(6, 0, 5, 2);
        w.join(7, 0, 4, 2);
        CHECK.due("overlap", w.join(0, 2, 3, 0), -12);
        dueClash(w, 2, 1, 5, 0, 2, 4);
        CHECK.due("overlap, the other way", w.join(3, 0, 0, 2), -12);
        dueClash(w, 2, 4, 2, 5, 3, 2, 0, 1);
        // 1 is as long as both: the first of those that hang down on it
        FrescoWall v = new FrescoWall();
        for (int k = 0; k < 8; k++) {
            Check.bit(v, Check.box(k == 1 ? 2 : 1, 1, "0000"), 5, -1, 0);
        }
        v.join(0, 1, 1, 3);
        v.join(3, 1, 6, 3);
        v.join(6, 1, 7, 3);
        v.join(6, 0, 5, 2);
        v.join(7, 0, 4, 2);
        CHECK.due("overlap", v.join(0, 2, 3, 0), -12);
        dueClash(v, 2, 1, 4, 0, 1, 2, 4);
    }

    private static void bothOnTheWall() {
        CHECK.of("3: CLASH: 3: both GROUPS are on THE WALL, and otherwise to one another");
        for (int x = -1; x <= 1; x++) {
            for (int y = -1; y <= 1; y++) {
                FrescoWall w = Check.squares(2);
                w.tolerance(1);
                w.put(0, 0, 10, 10);
                CHECK.due("put", w.put(1, 0, 11 + x, 10 + y), 1);
                CHECK.due("join at " + x + ", " + y, w.join(0, 1, 1, 3), x == 0 && y == 0 ? 0 : -13);
                CHECK.due("where it was", w.placed(1, 1), 11 + x);
            }
        }
        FrescoWall w = Check.squares(2);
        w.put(0, 0, 10, 10);
        CHECK.due("one of them is off", w.join(0, 1, 1, 3), 0);
        CHECK.due("it comes to the other one", w.placed(1, 1), 11);
    }

    private static void bothOnTheWallTurned() {
        CHECK.of("3: CLASH: 3: otherwise to one another (t, too)");
        FrescoWall w = Check.squares(2);
        w.word(0, 0, 10, 10);
        CHECK.due("its cell is right of 0, it is turned", w.word(1, 1, 12, 10), 1);
        CHECK.due("at", w.at(11, 10), 1);
        CHECK.due("without a turn", w.join(0, 1, 1, 3), -13);
        dueClash(w, 3, 0, 1);
        CHECK.due("with a quarter", w.join(0, 1, 1, 2), 0);
        dueAt(w, 1, 1, 12, 10);
    }

    private static void overlapAheadOfTheWall() {
        CHECK.of("9: of several the first one told: CLASH 2 ahead of 3 and 5");
        FrescoWall w = hooked(2);
        w.put(0, 0, 10, 10);
        w.put(2, 0, 30, 30);
        CHECK.due("2 and 3", w.join(0, 2, 2, 0), -12);
        w.lift(2);
        w.tolerance(2);
        Check.bit(w, Check.box(1, 1, "0000"), 5, -1, 0);
        w.put(4, 0, 10, 11);
        w.tolerance(0);
        CHECK.due("2 and 5", w.join(0, 2, 2, 0), -12);
        w.tolerance(2);
        CHECK.due("neither", w.join(0, 2, 2, 0), 2);
    }

    private static void oneOnTheWall() {
        CHECK.of("3: CLASH: 5: just one of them is on THE WALL, and a BIT of the other one would OVERLAP there; "
            + "4: by more than TOLERANCE (no JOINS are told)");
        for (int n = 1; n <= 3; n++) {
            FrescoWall w = new FrescoWall();
            Check.bit(w, Check.box(1, 1, "0000"), 5, -1, 0);
            Check.bit(w, Check.box(5, 1, "0000"), 5, -1, 0);
            Check.bit(w, Check.box(5, 1, "0000"), 5, -1, 0);
            w.put(0, 0, 10, 10);
            w.put(2, 0, 16 - n, 10);
            for (int tolerance = 0; tolerance < n; tolerance++) {
                w.tolerance(tolerance);
                CHECK.due("by " + n + " with " + tolerance, w.join(0, 1, 1, 3), -15);
                dueClash(w, 5, 1, 2);
                CHECK.due("the other way", w.join(1, 3, 0, 1), -15);
                dueClash(w, 5, 1, 2);
                CHECK.due("off still", w.placed(1, 0), BELOW);
            }
            w.tolerance(n);
            CHECK.due("by " + n + " with as much", n == 2 ? w.join(1, 3, 0, 1) : w.join(0, 1, 1, 3), 0);
            dueAt(w, 1, 0, 11, 10);
        }
        FrescoWall w = Check.squares(3);
        w.put(2, 0, 1, 0);
        CHECK.due("none of them is", w.join(0, 1, 1, 3), 0);
    }

    private static void firstThatOverlapOnTheWall() {
        CHECK.of("4: CLASH: 5 (the first such, by this GROUP's, then by numbers)");
        FrescoWall w = new FrescoWall();
        for (int k = 0; k < 6; k++) {
            Check.bit(w, Check.box(k == 3 ? 3 : 1, 1, "0000"), 5, -1, 0);
        }
        w.join(3, 1, 2, 3);
        w.put(0, 0, 14, 10);
        w.put(5, 0, 12, 10);
        w.put(1, 0, 11, 10);
        w.put(4, 0, 10, 10);
        // 3 would be on 11 .. 13 and 2 on 14
        CHECK.due("2 is ahead of 3", w.join(4, 1, 3, 3), -15);
        dueClash(w, 5, 2, 0);
        w.lift(0);
        CHECK.due("1 is ahead of 5", w.join(4, 1, 3, 3), -15);
        dueClash(w, 5, 3, 1);
        w.lift(1);
        CHECK.due("5 is left", w.join(3, 3, 4, 1), -15);
        dueClash(w, 5, 3, 5);
        w.lift(5);
        CHECK.due("free", w.join(3, 3, 4, 1), 1);
        dueAt(w, 2, 0, 14, 10);
    }

    /** Four squares round a point: 0, 1, 2, 3 one behind the other, by joins of these numbers. */
    private static FrescoWall ring(int first, int second, int third, int fourth) {
        FrescoWall w = Check.squares(4);
        int[][] joins = {{0, 1, 1, 3}, {1, 2, 2, 0}, {2, 3, 3, 1}, {3, 0, 0, 2}};
        int[] order = {first, second, third, fourth};
        for (int number = 0; number < 4; number++) {
            for (int k = 0; k < 4; k++) {
                if (order[k] == number) {
                    CHECK.due("join", w.join(joins[k][0], joins[k][1], joins[k][2], joins[k][3]), number);
                }
            }
        }
        return w;
    }

    private static void fewestJoins() {
        CHECK.of("3: THE CLASH tells of JOINS: the fewest that lead from A to B (1)");
        FrescoWall w = ring(0, 1, 2, 3);
        CHECK.due("otherwise", w.join(0, 0, 3, 2), -11);
        dueClash(w, 1, 0, 3, 3);
        CHECK.due("otherwise", w.join(3, 2, 0, 0), -11);
        dueClash(w, 1, 3, 0, 3);
        CHECK.due("otherwise", w.join(2, 1, 1, 1), -11);
        dueClash(w, 1, 2, 1, 1);
        w.undo(3);
        CHECK.due("otherwise", w.join(0, 0, 3, 2), -11);
        dueClash(w, 1, 0, 3, 0, 1, 2);
    }

    /** Where each way round is odd a step may lead to a bit that is just as far away. */
    private static void fewestAmongThree() {
        CHECK.of("3: the fewest that lead from A to B (1), also where each leads to both others");
        FrescoWall w = Check.threeInARound();
        CHECK.due("joins", w.group(0, 2), 3);
        CHECK.due("otherwise", w.join(0, 2, 1, 0), -11);
        dueClash(w, 1, 0, 1, 2);
        CHECK.due("otherwise", w.join(1, 0, 0, 2), -11);
        dueClash(w, 1, 1, 0, 2);
        CHECK.due("otherwise", w.join(0, 2, 2, 0), -11);
        dueClash(w, 1, 0, 2, 1);
        CHECK.due("word", w.word(1, 0, 0, 0), 3);
        CHECK.due("another word", w.word(0, 0, 0, 0), -14);
        dueClash(w, 4, 1, 0, 2);
    }

    private static void leastOfSeveralWays() {
        CHECK.of("3: of several ways the one whose JOINS, from the first one on, are the least");
        FrescoWall w = ring(1, 3, 2, 0);
        // from 0 to 2: 1 3 or 0 2
        CHECK.due("otherwise", w.join(0, 0, 2, 2), -11);
        dueClash(w, 1, 0, 2, 0, 2);
        // from 2 to 0: 3 1 or 2 0
        CHECK.due("otherwise", w.join(2, 2, 0, 0), -11);
        dueClash(w, 1, 2, 0, 2, 0);
        // from 1 to 3: 1 0 or 3 2
        CHECK.due("otherwise", w.join(1, 1, 3, 3), -11);
        dueClash(w, 1, 1, 3, 1, 0);
        // from 3 to 1: 0 1 or 2 3
        CHECK.due("otherwise", w.join(3, 3, 1, 1), -11);
        dueClash(w, 1, 3, 1, 0, 1);
        FrescoWall v = ring(0, 3, 1, 2);
        // from 0 to 2: 0 3 or 2 1, the first one counts
        CHECK.due("otherwise", v.join(0, 0, 2, 2), -11);
        dueClash(v, 1, 0, 2, 0, 3);
    }

    private static void waysOfJoinsThatAreThere() {
        CHECK.of("3: THE CLASH tells of JOINS (that are there, not those that were undone)");
        FrescoWall w = Check.squares(6);
        // the least ones were undone, whatever they led to
        w.join(3, 1, 4, 3);
        w.join(1, 1, 2, 3);
        w.join(0, 3, 2, 1);
        w.undo(0);
        w.undo(1);
        w.undo(2);
        w.join(1, 2, 0, 0);
        w.join(0, 1, 2, 3);
        CHECK.due("otherwise", w.join(1, 1, 2, 2), -11);
        dueClash(w, 1, 1, 2, 3, 4);
        CHECK.due("otherwise", w.join(2, 2, 1, 1), -11);
        dueClash(w, 1, 2, 1, 4, 3);
        w.word(1, 0, 0, 0);
        CHECK.due("otherwise", w.word(2, 0, 0, 0), -14);
        dueClash(w, 4, 1, 2, 3, 4);
    }

    private static void waysOfTwoGroups() {
        CHECK.of("3: THE CLASH tells: from A's to A, and from B to B's (2)");
        FrescoWall w = row(3);
        for (int k = 3; k < 7; k++) {
            Check.bit(w, Check.box(1, 1, "0000"), 5, -1, 0);
        }
        // 3, 4, 5 above 0, 1, 2, and 6 below 5
        w.join(3, 1, 4, 3);
        w.join(4, 1, 5, 3);
        w.join(5, 0, 6, 2);
        CHECK.due("overlap", w.join(0, 2, 3, 0), -12);
        dueClash(w, 2, 2, 6, 1, 0, 2, 3, 4);
        CHECK.due("overlap, from nearer ones", w.join(1, 2, 4, 0), -12);
        dueClash(w, 2, 2, 6, 1, 3, 4);
    }

    private static void fromTheLeastWord() {
        CHECK.of("3: THE CLASH tells: from the least BIT of A's GROUP that has a WORD to A, "
            + "and from B to that of B's (3)");
        FrescoWall w = Check.squares(8);
        w.join(3, 1, 2, 3);
        w.join(2, 1, 1, 3);
        w.join(1, 1, 0, 3);
        w.join(4, 1, 5, 3);
        w.join(5, 1, 6, 3);
        w.join(6, 1, 7, 3);
        w.word(3, 0, 0, 0);
        w.word(1, 0, 2, 0);
        w.word(7, 0, 50, 0);
        CHECK.due("otherwise", w.join(0, 1, 4, 3), -13);
        dueClash(w, 3, 1, 7, 2, 3, 4, 5);
        w.word(5, 0, 48, 0);
        CHECK.due("otherwise", w.join(0, 1, 4, 3), -13);
        dueClash(w, 3, 1, 5, 2, 3);
        w.unsay(1);
        CHECK.due("otherwise", w.join(4, 3, 0, 1), -13);
        dueClash(w, 3, 5, 3, 3, 2, 1, 0);
    }

    private static void fromTheLeastThatWasPut() {
        CHECK.of("3: (or else that was PUT)");
        FrescoWall w = Check.squares(6);
        w.put(3, 0, 0, 0);
        w.put(2, 0, 1, 0);
        w.put(1, 0, 2, 0);
        CHECK.due("both were put", w.join(3, 1, 2, 3), 0);
        CHECK.due("all were put", w.join(2, 1, 1, 3), 1);
        w.put(5, 0, 50, 0);
        CHECK.due("otherwise", w.join(3, 3, 5, 1), -13);
        dueClash(w, 3, 1, 5, 1, 0);
        // a word goes ahead of a lesser one that was put
        w.word(4, 0, 3, 0);
        CHECK.due("just so", w.join(1, 1, 4, 3), 2);
        CHECK.due("otherwise", w.join(3, 3, 5, 1), -13);
        dueClash(w, 3, 4, 5, 2, 1, 0);
        CHECK.due("otherwise, the other way", w.join(5, 1, 3, 3), -13);
        dueClash(w, 3, 5, 4, 0, 1, 2);
    }

    private static void undone() {
        CHECK.of("3: A JOIN may be UNDONE: its GROUP may become two; Promise 15: how many BITS are in GROUPS "
            + "of both its BITS together then");
        FrescoWall w = row(6);
        CHECK.due("two of three", w.undo(2), 6);
        CHECK.due("groups", w.count(2), 2);
        CHECK.due("one and two", w.undo(0), 3);
        CHECK.due("one and one", w.undo(1), 2);
        CHECK.due("alone", w.group(1, 1), 1);
        CHECK.due("groups", w.count(2), 4);
        CHECK.due("joins", w.count(1), 2);
        CHECK.due("joins in all", w.count(8), 5);
        FrescoWall v = ring(0, 1, 2, 3);
        CHECK.due("still one", v.undo(1), 4);
        CHECK.due("still one", v.group(2, 1), 4);
        CHECK.due("two", v.undo(2), 4);
        CHECK.due("two", v.group(2, 1), 1);
        CHECK.due("two", v.group(3, 1), 3);
    }

    private static void undoNone() {
        CHECK.of("Promise 15: NONE: none such, or undone");
        FrescoWall w = row(3);
        for (int join : new int[] {-1, 2, 31, 32, 59, 60, 63, 64, Integer.MIN_VALUE, Integer.MAX_VALUE}) {
            CHECK.due("undo " + join, w.undo(join), -1);
        }
        CHECK.due("joins", w.count(1), 2);
        CHECK.due("the last", w.undo(1), 3);
        CHECK.due("undone", w.undo(1), -1);
        CHECK.due("the first", w.undo(0), 2);
        CHECK.due("undone", w.undo(0), -1);
    }

    private static void offTheWall() {
        CHECK.of("3: one that has no BIT with a WORD, nor one that was PUT, is off THE WALL");
        FrescoWall w = row(4);
        w.put(1, 0, 10, 10);
        w.undo(1);
        CHECK.due("was put", w.placed(0, 3), 0);
        CHECK.due("was not", w.placed(2, 3), BELOW);
        CHECK.due("was not", w.placed(3, 0), BELOW);
        CHECK.due("on the wall", w.count(3), 2);
        w.undo(0);
        CHECK.due("was not", w.placed(0, 0), BELOW);
        CHECK.due("was put", w.placed(1, 1), 10);
        FrescoWall v = row(4);
        v.word(3, 0, 13, 10);
        v.word(0, 0, 10, 10);
        v.undo(1);
        CHECK.due("both have one", v.count(3), 4);
        CHECK.due("by a word", v.placed(1, 3), 1);
        v.undo(0);
        CHECK.due("has none", v.placed(1, 3), BELOW);
        CHECK.due("has one", v.placed(0, 3), 2);
        v.undo(2);
        CHECK.due("has none", v.placed(2, 3), BELOW);
        CHECK.due("on the wall", v.count(3), 2);
    }

    private static void joinedNone() {
        CHECK.of("Promise 16: Of a JOIN that is there: what 0 A, 1 a, 2 B, 3 b, 4 whether it is BEST BOTH WAYS now. NONE");
        FrescoWall w = Check.squares(4);
        w.join(3, 2, 1, 0);
        w.join(1, 3, 2, 1);
        int[] first = {3, 2, 1, 0, 0};
        int[] second = {1, 3, 2, 1, 0};
        for (int what = 0; what <= 4; what++) {
            CHECK.due("joined(0, " + what + ")", w.joined(0, what), first[what]);
            CHECK.due("joined(1, " + what + ")", w.joined(1, what), second[what]);
            CHECK.due("behind the last", w.joined(2, what), -1);
            CHECK.due("ahead of the first", w.joined(-1, what), -1);
        }
        for (int what : new int[] {-1, 5, Integer.MIN_VALUE, Integer.MAX_VALUE}) {
            CHECK.due("what " + what, w.joined(1, what), -1);
        }
        for (int join : FAR) {
            CHECK.due("join " + join, w.joined(join, 0), -1);
        }
        w.undo(0);
        for (int what = 0; what <= 4; what++) {
            CHECK.due("undone", w.joined(0, what), -1);
            CHECK.due("there", w.joined(1, what), second[what]);
        }
    }

    private static void bestNow() {
        CHECK.of("Promise 16: 4 whether it is BEST BOTH WAYS now");
        FrescoWall w = new FrescoWall();
        Check.bit(w, Check.box(2, 1, "1555"), 5, -1, 0);
        Check.bit(w, Check.box(2, 1, "2666"), 5, -1, 0);
        Check.bit(w, Check.box(2, 3, "3777"), 5, -1, 0);
        w.likeness(1, 2, 5);
        w.join(1, 0, 0, 0);
        CHECK.due("best", w.joined(0, 4), 1);
        w.likeness(1, 3, 4);
        CHECK.due("best", w.joined(0, 4), 1);
        w.likeness(1, 3, 5);
        CHECK.due("as good a one", w.joined(0, 4), 0);
        w.likeness(1, 3, 0);
        CHECK.due("best", w.joined(0, 4), 1);
        w.likeness(2, 3, 5);
        CHECK.due("as good a one of the other", w.joined(0, 4), 0);
        // as good a one is EDGE 0 of BIT 0, of either
        for (int colour = 2; colour <= 3; colour++) {
            FrescoWall v = new FrescoWall();
            Check.bit(v, Check.box(2, 1, "1555"), 5, -1, 0);
            Check.bit(v, Check.box(2, 1, "2666"), 5, -1, 0);
            Check.bit(v, Check.box(2, 3, "3777"), 5, -1, 0);
            v.likeness(2, 3, 5);
            v.join(1, 0, 2, 0);
            CHECK.due("best", v.joined(0, 4), 1);
            v.likeness(1, colour, 5);
            CHECK.due("as good a one", v.joined(0, 4), 0);
            v.likeness(1, colour, 4);
            CHECK.due("best", v.joined(0, 4), 1);
        }
    }

    private static void groupNone() {
        CHECK.of("Promise 17: NONE");
        FrescoWall w = row(2);
        for (int bit : new int[] {-1, 2, 30, 31, 32, Integer.MIN_VALUE, Integer.MAX_VALUE}) {
            CHECK.due("bit " + bit, w.group(bit, 0), -1);
        }
        for (int what : new int[] {-1, 3, Integer.MIN_VALUE, Integer.MAX_VALUE}) {
            CHECK.due("what " + what, w.group(0, what), -1);
        }
        CHECK.due("the last", w.group(1, 2), 1);
    }

    private static void groupCounts() {
        CHECK.of("Promise 17: The least BIT of the GROUP (what 0), how many it has (1), JOINS in it (2)");
        FrescoWall w = ring(0, 1, 2, 3);
        Check.bit(w, Check.box(1, 1, "0000"), 5, -1, 0);
        for (int bit = 0; bit < 4; bit++) {
            CHECK.due("least", w.group(bit, 0), 0);
            CHECK.due("many", w.group(bit, 1), 4);
            CHECK.due("joins", w.group(bit, 2), 4);
        }
        CHECK.due("alone", w.group(4, 0), 4);
        CHECK.due("alone", w.group(4, 1), 1);
        CHECK.due("alone", w.group(4, 2), 0);
        FrescoWall v = row(30);
        CHECK.due("all", v.group(17, 0), 0);
        CHECK.due("all", v.group(29, 1), 30);
        CHECK.due("all", v.group(29, 2), 29);
        CHECK.due("one group", v.count(2), 1);
        v.undo(14);
        CHECK.due("behind", v.group(29, 0), 15);
        CHECK.due("behind", v.group(29, 2), 14);
    }

    private static void noClashYet() {
        CHECK.of("Promise 18: NONE: none was, too");
        FrescoWall w = row(2);
        w.join(0, 1, 1, 3);
        w.join(0, 0, 0, 0);
        w.word(0, 4, 0, 0);
        for (int what = -1; what <= 12; what++) {
            CHECK.due("clash " + what, w.clash(what), -1);
        }
    }

    private static void clashNone() {
        CHECK.of("Promise 18: what 0 its number (1 .. 5), 1 how many JOINS, 2 the first BIT, 3 the second one; "
            + "10 and i: JOIN i. NONE");
        FrescoWall w = row(30);
        CHECK.due("otherwise", w.join(29, 1, 0, 3), -11);
        CHECK.due("number", w.clash(0), 1);
        CHECK.due("joins", w.clash(1), 29);
        CHECK.due("A", w.clash(2), 29);
        CHECK.due("B", w.clash(3), 0);
        for (int what = 4; what < 10; what++) {
            CHECK.due("clash " + what, w.clash(what), -1);
        }
        for (int i = 0; i < 29; i++) {
            CHECK.due("join " + i, w.clash(10 + i), 28 - i);
        }
        CHECK.due("behind the last", w.clash(39), -1);
        for (int what : FAR) {
            CHECK.due("clash " + what, w.clash(what), -1);
        }
    }

    private static void theLatestClash() {
        CHECK.of("Promise 18: THE CLASH that was told latest");
        FrescoWall w = row(3);
        w.join(2, 1, 0, 3);
        dueClash(w, 1, 2, 0, 1, 0);
        // what is not refused with one leaves it
        w.join(0, 0, 0, 2);
        w.join(0, 1, 2, 3);
        w.undo(0);
        w.word(0, 0, 0, 0);
        w.put(1, 0, 5, 5);
        dueClash(w, 1, 2, 0, 1, 0);
        CHECK.due("the next one", w.put(2, 0, 1, 0), -15);
        dueClash(w, 5, 1, 0);
        CHECK.due("the next one", w.join(0, 1, 1, 3), -13);
        dueClash(w, 3, 0, 1);
        w.lift(1);
        CHECK.due("joined", w.join(0, 1, 1, 3), 2);
        CHECK.due("the next one", w.word(2, 0, 9, 9), -14);
        dueClash(w, 4, 0, 2, 2, 1);
        CHECK.due("refused without one", w.word(2, 0, 501, 9), -2);
        dueClash(w, 4, 0, 2, 2, 1);
    }
}
