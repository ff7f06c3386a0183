/** Part 2 of the document and promises 8 to 13, sentence by sentence: just inside each bound and just outside it. */
public final class BoundFitsTest {
    private static final Check CHECK = new Check("BoundFitsTest");
    private static final int BELOW = -100000;
    /** A slot, one wide and six deep, in a block; edge 4 is its floor. */
    private static final String SLOT = "-10,0:0;10,0:0;10,8:0;1,8:0;1,2:0;0,2:0;0,8:0;-10,8:0";

    public static void main(String[] args) {
        anotherBit();
        onePlaster();
        aWayBackward();
        beginsWhereItEnds();
        toleranceOrLess();
        toleranceOf30();
        likenessAtFirst();
        likenessEitherWay();
        likenessNone();
        likenessBad();
        scoreOfLikeness();
        scoreOfThickness();
        scoreOfStraw();
        scoreRefused();
        turnedNone();
        fitsNone();
        fitNone();
        orderOfScores();
        orderOfBitsAndEdges();
        bestBothWays();
        rivalOfA();
        rivalOfB();
        rivalOfSeveral();
        rivalRefused();
        CHECK.end();
    }

    /** A bit that, laid on the slot's floor by its edge 1, has wide times high cells in the block. */
    private static String lid(int wide, int high) {
        return "-" + wide + ",0:0;0,0:0;1,0:0;1," + high + ":0;-" + wide + "," + high + ":0";
    }

    private static FrescoWall rectangles(String... colours) {
        FrescoWall w = new FrescoWall();
        for (String c : colours) {
            Check.bit(w, Check.box(2, 1, c), 5, -1, 0);
        }
        return w;
    }

    private static void anotherBit() {
        CHECK.of("2: EDGE a of BIT A FITS EDGE b of another BIT B");
        FrescoWall w = Check.squares(1);
        CHECK.due("its own ones are none", w.fits(0, 0), 0);
        CHECK.due("its own ones are none", w.fit(0, 0, 0), -1);
        Check.bit(w, Check.box(1, 1, "0000"), 5, -1, 0);
        CHECK.due("another one's", w.fits(0, 0), 4);
        CHECK.due("another one's", w.fit(0, 0, 0), 10);
    }

    private static void onePlaster() {
        CHECK.of("2: they have one PLASTER");
        FrescoWall w = new FrescoWall();
        for (int plaster : new int[] {4, 4, 5, 3}) {
            Check.bit(w, Check.box(1, 1, "0000"), 5, -1, plaster);
        }
        CHECK.due("one", w.score(0, 0, 1, 0), 27);
        CHECK.due("the next one", w.score(0, 0, 2, 0), -3);
        CHECK.due("the one ahead", w.score(0, 0, 3, 0), -3);
        CHECK.due("fits", w.fits(0, 0), 4);
    }

    private static void aWayBackward() {
        CHECK.of("2: there is a turn t of B (against A) by which b's way is a's way backward");
        FrescoWall w = new FrescoWall();
        // ways (2, 1), (1, 2), (2, 2), (3, 0) and (5, 0): as long ones, mirrored ones, others
        Check.bit(w, "0,0:0;2,1:0;0,2:0", 5, -1, 0);
        Check.bit(w, "0,0:0;1,2:0;0,2:0", 5, -1, 0);
        Check.bit(w, "0,0:0;2,2:0;0,3:0", 5, -1, 0);
        Check.bit(w, "0,0:0;5,0:0;2,4:0", 5, -1, 0);
        Check.bit(w, "0,0:0;4,3:0;0,5:0", 5, -1, 0);
        CHECK.due("mirrored", w.score(0, 0, 1, 0), -3);
        CHECK.due("longer", w.score(0, 0, 2, 0), -3);
        CHECK.due("as long, but never so", w.score(3, 0, 4, 0), -3);
        CHECK.due("a quarter", w.score(3, 0, 4, 2), 27);
        for (int t = 0; t < 4; t++) {
            FrescoWall v = new FrescoWall();
            Check.bit(v, "0,0:0;2,1:0;0,2:0", 5, -1, 0);
            // the way (-2, -1), turned back by t
            String[] others = {"2,1:0;0,0:0;2,-1:0", "1,-2:0;0,0:0;-1,-2:0", "-2,-1:0;0,0:0;-2,1:0", "-1,2:0;0,0:0;1,2:0"};
            CHECK.due("bit", Check.bit(v, others[t], 5, -1, 0), 1);
            CHECK.due("by a turn", v.score(0, 0, 1, 0), 27);
            CHECK.due("which one", v.turned(0, 0, 1, 0, 0), t);
        }
    }

    private static void beginsWhereItEnds() {
        CHECK.of("2: B is shifted so that b begins where a ends; Promise 10: what 0 t, 1 x, 2 y");
        FrescoWall w = new FrescoWall();
        Check.bit(w, "3,4:0;6,4:0;6,5:0;3,5:0", 5, -1, 0);
        Check.bit(w, "-7,-9:0;-4,-9:0;-4,-8:0;-7,-8:0", 5, -1, 0);
        // edge 1 leads up from (6, 4) to (6, 5): there the other one's begins, at (-7, -8), or turned at (4, 9)
        int[] left = {0, 13, 13};
        int[] right = {2, 2, -4};
        for (int what = 0; what <= 2; what++) {
            CHECK.due("left edge, what " + what, w.turned(0, 1, 1, 3, what), left[what]);
            CHECK.due("right edge, what " + what, w.turned(0, 1, 1, 1, what), right[what]);
        }
        CHECK.due("no quarter", w.turned(0, 1, 1, 0, 0), BELOW);
    }

    private static void toleranceOrLess() {
        CHECK.of("2: OVERLAP then is TOLERANCE or less");
        for (int n = 1; n <= 8; n++) {
            FrescoWall w = new FrescoWall();
            Check.bit(w, SLOT, 5, -1, 0);
            Check.bit(w, n <= 5 ? lid(n, 1) : n == 6 ? lid(3, 2) : n == 7 ? lid(7, 1) : lid(2, 4), 5, -1, 0);
            CHECK.due("overlap", w.overlap(0, 1, 0, 0, 2), n);
            for (int tolerance = 0; tolerance <= n + 1; tolerance++) {
                w.tolerance(tolerance);
                boolean fits = n <= tolerance;
                CHECK.due("score, " + n + " by " + tolerance, w.score(0, 4, 1, 1), fits ? 27 : -3);
                CHECK.due("the other way", w.score(1, 1, 0, 4), fits ? 27 : -3);
                CHECK.due("turned", w.turned(0, 4, 1, 1, 2), fits ? 2 : BELOW);
            }
        }
    }

    private static void toleranceOf30() {
        CHECK.of("1: TOLERANCE 0 .. 30; 2: OVERLAP then is TOLERANCE or less");
        FrescoWall w = new FrescoWall();
        Check.bit(w, SLOT, 5, -1, 0);
        Check.bit(w, lid(10, 3), 5, -1, 0);
        Check.bit(w, "-5,0:0;0,0:0;1,0:0;6,0:0;6,4:0;5,4:0;5,3:0;-5,3:0", 5, -1, 0);
        CHECK.due("overlap", w.overlap(0, 1, 0, 0, 2), 30);
        CHECK.due("overlap", w.overlap(0, 2, 0, 0, 2), 31);
        w.tolerance(30);
        CHECK.due("30", w.score(0, 4, 1, 1), 27);
        CHECK.due("31", w.score(0, 4, 2, 1), -3);
        w.tolerance(29);
        CHECK.due("30", w.score(0, 4, 1, 1), -3);
    }

    private static void likenessAtFirst() {
        CHECK.of("2: LIKENESS of both COLOURS: at first 9 of alike ones, else 0");
        FrescoWall w = new FrescoWall();
        for (int a = 0; a <= 9; a++) {
            for (int b = 0; b <= a; b++) {
                CHECK.due("likeness of " + a + ", " + b, w.likeness(a, b, 5), a == b ? 9 : 0);
            }
        }
    }

    private static void likenessEitherWay() {
        CHECK.of("2: LIKENESS (0 .. 9, told for two, either way); Promise 8: what it was");
        FrescoWall w = rectangles("1000", "2000");
        CHECK.due("at first", w.score(0, 0, 1, 0), 9);
        for (int n = 0; n <= 9; n++) {
            CHECK.due("one way", w.likeness(1, 2, n), n == 0 ? 0 : 10 - n);
            CHECK.due("score", w.score(0, 0, 1, 0), 9 + 2 * n);
            CHECK.due("score of the other one", w.score(1, 0, 0, 0), 9 + 2 * n);
            CHECK.due("the other way", w.likeness(2, 1, 9 - n), n);
            CHECK.due("score", w.score(0, 0, 1, 0), 9 + 2 * (9 - n));
        }
        CHECK.due("no others", w.likeness(1, 1, 0), 9);
        CHECK.due("no others", w.likeness(2, 2, 0), 9);
    }

    private static void likenessNone() {
        CHECK.of("Promise 8: NONE: COLOURS");
        FrescoWall w = new FrescoWall();
        for (int c : new int[] {-1, 10, Integer.MIN_VALUE, Integer.MAX_VALUE}) {
            CHECK.due("first " + c, w.likeness(c, 0, 5), -1);
            CHECK.due("second " + c, w.likeness(0, c, 5), -1);
            CHECK.due("NONE ahead of BAD", w.likeness(0, c, 10), -1);
            CHECK.due("NONE ahead of BAD", w.likeness(c, 0, -1), -1);
        }
        CHECK.due("0 and 9 are some", w.likeness(0, 9, 0), 0);
        CHECK.due("9 and 0 are some", w.likeness(9, 0, 0), 0);
    }

    private static void likenessBad() {
        CHECK.of("Promise 8: BAD");
        FrescoWall w = new FrescoWall();
        for (int n : new int[] {-1, 10, Integer.MIN_VALUE, Integer.MAX_VALUE}) {
            CHECK.due("likeness " + n, w.likeness(3, 4, n), -2);
        }
        CHECK.due("as it was", w.likeness(3, 4, 9), 0);
        CHECK.due("as it was", w.likeness(4, 3, 0), 9);
    }

    private static void scoreOfLikeness() {
        CHECK.of("2: SCORE: twice LIKENESS of both COLOURS");
        FrescoWall w = rectangles("1234", "1567");
        CHECK.due("alike", w.score(0, 0, 1, 0), 27);
        CHECK.due("not alike", w.score(0, 1, 1, 1), 9);
        w.likeness(2, 5, 4);
        CHECK.due("told", w.score(0, 1, 1, 1), 17);
    }

    private static void scoreOfThickness() {
        CHECK.of("2: 9 less how far THICKNESS differs (0 at least)");
        FrescoWall w = new FrescoWall();
        int[] thick = {1, 2, 9, 10, 11, 12, 99};
        int[] due = {0, 8, 1, 0, 0, 0, 0};
        for (int k = 0; k < thick.length; k++) {
            Check.bit(w, Check.box(2, 1, k == 0 ? "1234" : "5678"), thick[k], -1, 0);
        }
        for (int k = 1; k < thick.length; k++) {
            CHECK.due("1 and " + thick[k], w.score(0, 0, k, 0), due[k]);
            CHECK.due(thick[k] + " and 1", w.score(k, 0, 0, 0), due[k]);
        }
        CHECK.due("not less than nothing", w.likeness(1, 5, 1), 0);
        CHECK.due("likeness alone", w.score(0, 0, 6, 0), 2);
        CHECK.due("as thick", Check.bit(w, Check.box(2, 1, "9999"), 1, -1, 0), 7);
        CHECK.due("as thick", w.score(0, 0, 7, 0), 9);
    }

    private static void scoreOfStraw() {
        CHECK.of("2: 5 if both have STRAW, the same line then; 1: STRAW 2 t on, modulo 4");
        FrescoWall w = new FrescoWall();
        for (int straw = -1; straw <= 3; straw++) {
            Check.bit(w, Check.box(1, 1, "1111"), 1, straw, 0);
        }
        for (int straw = -1; straw <= 3; straw++) {
            Check.bit(w, Check.box(1, 1, "2222"), 50, straw, 0);
        }
        // by the left edge without a turn, by the upper one with a quarter, and so on
        int[] edge = {3, 2, 1, 0};
        for (int a = -1; a <= 3; a++) {
            for (int b = -1; b <= 3; b++) {
                for (int t = 0; t < 4; t++) {
                    boolean same = a >= 0 && b >= 0 && (b + 2 * t) % 4 == a;
                    CHECK.due("t", w.turned(a + 1, 1, b + 6, edge[t], 0), t);
                    CHECK.due("straw " + a + ", " + b + " by " + t, w.score(a + 1, 1, b + 6, edge[t]), same ? 5 : 0);
                }
            }
        }
    }

    private static void scoreRefused() {
        CHECK.of("Promise 9: STATE: they do not fit. NONE; BAD: one BIT");
        FrescoWall w = rectangles("0000", "0000");
        CHECK.due("score", w.score(0, 0, 1, 0), 27);
        CHECK.due("STATE", w.score(0, 0, 1, 1), -3);
        CHECK.due("one BIT", w.score(0, 0, 0, 2), -2);
        CHECK.due("one BIT and one EDGE", w.score(1, 1, 1, 1), -2);
        for (int none : new int[] {-1, 4, 8, Integer.MIN_VALUE, Integer.MAX_VALUE}) {
            CHECK.due("a", w.score(0, none, 1, 0), -1);
            CHECK.due("b", w.score(0, 0, 1, none), -1);
            CHECK.due("A", w.score(none, 0, 1, 0), -1);
            CHECK.due("B", w.score(0, 0, none, 0), -1);
            CHECK.due("NONE ahead of BAD", w.score(0, none, 0, 0), -1);
            CHECK.due("NONE ahead of BAD", w.score(0, 0, 0, none), -1);
            CHECK.due("NONE ahead of BAD", w.score(none, 0, none, 0), -1);
            CHECK.due("NONE ahead of STATE", w.score(0, 0, 1, none), -1);
        }
        CHECK.due("the last BIT", w.score(1, 3, 0, 3), 27);
        CHECK.due("behind the last", w.score(2, 3, 0, 3), -1);
        CHECK.due("behind the last", w.score(0, 3, 2, 3), -1);
    }

    private static void turnedNone() {
        CHECK.of("Promise 10: -100000: no FIT, too");
        FrescoWall w = rectangles("0000", "0000");
        CHECK.due("t", w.turned(0, 0, 1, 0, 0), 2);
        CHECK.due("x", w.turned(0, 0, 1, 0, 1), 2);
        CHECK.due("y", w.turned(0, 0, 1, 0, 2), 0);
        CHECK.due("no FIT", w.turned(0, 0, 1, 1, 0), BELOW);
        CHECK.due("one BIT", w.turned(0, 0, 0, 2, 0), BELOW);
        for (int none : new int[] {-1, 4, 8, Integer.MIN_VALUE, Integer.MAX_VALUE}) {
            CHECK.due("a", w.turned(0, none, 1, 0, 0), BELOW);
            CHECK.due("b", w.turned(0, 0, 1, none, 0), BELOW);
            CHECK.due("A", w.turned(none, 0, 1, 0, 0), BELOW);
            CHECK.due("B", w.turned(0, 0, none, 0, 0), BELOW);
            CHECK.due("what", w.turned(0, 0, 1, 0, none), BELOW);
        }
        CHECK.due("what", w.turned(0, 0, 1, 0, 3), BELOW);
        CHECK.due("B", w.turned(0, 0, 2, 0, 0), BELOW);
    }

    private static void fitsNone() {
        CHECK.of("Promise 11: How many FITS an EDGE has. NONE");
        FrescoWall w = rectangles("0000", "0000", "0000");
        CHECK.due("long", w.fits(0, 0), 4);
        CHECK.due("last", w.fits(2, 3), 4);
        for (int none : new int[] {-1, 4, 8, Integer.MIN_VALUE, Integer.MAX_VALUE}) {
            CHECK.due("edge " + none, w.fits(0, none), -1);
            CHECK.due("bit " + none, w.fits(none, 0), -1);
        }
        CHECK.due("behind the last", w.fits(3, 0), -1);
        Check.bit(w, "0,0:0;4,0:0;0,4:0", 5, -1, 0);
        CHECK.due("no FIT", w.fits(3, 0), 0);
        CHECK.due("the last of three", w.fits(3, 2), 0);
        CHECK.due("behind the last of three", w.fits(3, 3), -1);
    }

    private static void fitNone() {
        CHECK.of("Promise 12: FIT i of an EDGE, from 0 on: 10 times B, and b. NONE");
        FrescoWall w = rectangles("0000", "0000", "0000");
        int[] due = {10, 12, 20, 22};
        for (int i = 0; i < 4; i++) {
            CHECK.due("fit " + i, w.fit(0, 0, i), due[i]);
        }
        for (int i : new int[] {-1, 4, 5, Integer.MIN_VALUE, Integer.MAX_VALUE}) {
            CHECK.due("fit " + i, w.fit(0, 0, i), -1);
        }
        for (int none : new int[] {-1, 4, 8, Integer.MIN_VALUE, Integer.MAX_VALUE}) {
            CHECK.due("edge " + none, w.fit(0, none, 0), -1);
            CHECK.due("bit " + none, w.fit(none, 0, 0), -1);
        }
        CHECK.due("behind the last", w.fit(3, 0, 0), -1);
        FrescoWall v = new FrescoWall();
        for (int k = 0; k < 30; k++) {
            Check.bit(v, "0,0:0;1,0:0;2,0:0;3,0:0;3,1:0;2,1:0;1,1:0;0,1:0", 5, -1, 0);
        }
        CHECK.due("all of all others", v.fits(0, 0), 232);
        CHECK.due("the last one", v.fit(0, 0, 231), 297);
        CHECK.due("behind it", v.fit(0, 0, 232), -1);
    }

    private static void orderOfScores() {
        CHECK.of("2: FITS of an EDGE: in order of SCORE, the greatest first");
        FrescoWall w = new FrescoWall();
        Check.bit(w, Check.box(1, 2, "1111"), 10, 0, 0);
        // with the upper edges to one another: half a turn is none for the straw
        int[] thick = {1, 10, 6, 99, 13};
        int[] straw = {0, -1, 2, 0, 1};
        for (int k = 0; k < 5; k++) {
            Check.bit(w, Check.box(1, 2, "2212"), thick[k], straw[k], 0);
        }
        // 1: 18 + 0 + 5, 2: 18 + 9, 3: 18 + 5, 4: 18 + 0 + 5, 5: 18 + 6; the lower edge 18 less, its turn is half, too
        int[] due = {22, 52, 12, 32, 42, 20, 50, 10, 30, 40};
        int[] score = {27, 24, 23, 23, 23, 9, 6, 5, 5, 5};
        CHECK.due("fits", w.fits(0, 2), 10);
        for (int i = 0; i < 10; i++) {
            CHECK.due("fit " + i, w.fit(0, 2, i), due[i]);
            CHECK.due("score " + i, w.score(0, 2, due[i] / 10, due[i] % 10), score[i]);
        }
    }

    private static void orderOfBitsAndEdges() {
        CHECK.of("2: then by B, then by b");
        FrescoWall w = Check.squares(12);
        CHECK.due("fits", w.fits(5, 2), 44);
        int i = 0;
        for (int b = 0; b < 12; b++) {
            for (int edge = 0; edge < 4 && b != 5; edge++) {
                CHECK.due("fit " + i, w.fit(5, 2, i), 10 * b + edge);
                i++;
            }
        }
    }

    /** Bit 0 and 1 fit by their lower edges, of which the score is 18 + 9 or less by what is told for 1 and 2. */
    private static FrescoWall pair() {
        FrescoWall w = new FrescoWall();
        Check.bit(w, Check.box(2, 1, "1555"), 5, -1, 0);
        Check.bit(w, Check.box(2, 1, "2666"), 5, -1, 0);
        w.likeness(1, 2, 5);
        return w;
    }

    private static void bestBothWays() {
        CHECK.of("2: A FIT is BEST BOTH WAYS if no FIT of a and none of b has its SCORE or more but itself");
        for (int n = 0; n <= 9; n++) {
            FrescoWall w = pair();
            CHECK.due("best", w.rival(0, 0, 1, 0), -5);
            CHECK.due("best", w.rival(1, 0, 0, 0), -5);
            // another one for a
            Check.bit(w, Check.box(2, 5, "3777"), 5, -1, 0);
            w.likeness(1, 3, n);
            CHECK.due("a's other one, " + n, w.rival(0, 0, 1, 0), n < 5 ? -5 : 20);
            CHECK.due("told from b, " + n, w.rival(1, 0, 0, 0), n < 5 ? -5 : 20);
            // another one for b
            FrescoWall v = pair();
            Check.bit(v, Check.box(2, 5, "4777"), 5, -1, 0);
            v.likeness(2, 4, n);
            CHECK.due("b's other one, " + n, v.rival(0, 0, 1, 0), n < 5 ? -5 : 1020);
            CHECK.due("told from b, " + n, v.rival(1, 0, 0, 0), n < 5 ? -5 : 1020);
        }
    }

    private static void rivalOfA() {
        CHECK.of("2: RIVAL of a FIT: the first other FIT of a of that SCORE or more");
        FrescoWall w = rectangles("1555", "2666", "3777", "4888");
        w.likeness(1, 2, 3);
        w.likeness(1, 3, 5);
        w.likeness(1, 4, 5);
        CHECK.due("the greatest, not the next one", w.rival(0, 0, 1, 0), 20);
        CHECK.due("as great as itself", w.rival(0, 0, 2, 0), 30);
        CHECK.due("as great as itself, ahead of it", w.rival(0, 0, 3, 0), 20);
        w.likeness(1, 4, 6);
        CHECK.due("the greatest", w.rival(0, 0, 1, 0), 30);
        CHECK.due("ahead of it", w.rival(0, 0, 2, 0), 30);
        CHECK.due("none", w.rival(0, 0, 3, 0), -5);
    }

    private static void rivalOfB() {
        CHECK.of("2: RIVAL: else the first such of b; Promise 13: 1000 times the BIT of which the EDGE is (A or B), "
            + "10 times the other BIT, and its EDGE; -5: it is BEST BOTH WAYS");
        FrescoWall w = rectangles("1555", "2666", "3777", "4888", "9999");
        w.likeness(1, 2, 3);
        w.likeness(2, 3, 3);
        w.likeness(2, 4, 4);
        CHECK.due("b's first one", w.rival(0, 0, 1, 0), 1030);
        CHECK.due("a's first one, b is A here", w.rival(1, 0, 0, 0), 1030);
        w.likeness(1, 9, 3);
        CHECK.due("one of a goes ahead of those of b", w.rival(0, 0, 1, 0), 40);
        CHECK.due("one of 1 goes ahead of those of 0", w.rival(1, 0, 0, 0), 1030);
        w.likeness(2, 3, 0);
        w.likeness(2, 4, 2);
        CHECK.due("none of 1, one of 0", w.rival(1, 0, 0, 0), 40);
        CHECK.due("the first one of three", w.rival(0, 0, 4, 2), 10);
        CHECK.due("the first other one of three", w.rival(0, 0, 1, 0), 40);
    }

    private static void rivalOfSeveral() {
        CHECK.of("2: RIVAL: the first other FIT (in order of SCORE, then by B, then by b)");
        FrescoWall w = Check.squares(3);
        CHECK.due("the first one", w.rival(1, 0, 2, 3), 1000);
        CHECK.due("the first one but itself", w.rival(1, 0, 0, 0), 1001);
        CHECK.due("the first one but itself", w.rival(0, 3, 1, 0), 11);
        CHECK.due("the first one", w.rival(0, 3, 1, 1), 10);
        CHECK.due("the first one", w.rival(2, 3, 1, 3), 2000);
    }

    private static void rivalRefused() {
        CHECK.of("Promise 13: NONE; BAD; STATE: no FIT");
        FrescoWall w = rectangles("0000", "0000");
        CHECK.due("STATE", w.rival(0, 0, 1, 1), -3);
        CHECK.due("BAD", w.rival(0, 0, 0, 2), -2);
        CHECK.due("BAD ahead of STATE", w.rival(0, 0, 0, 1), -2);
        for (int none : new int[] {-1, 4, 8, Integer.MIN_VALUE, Integer.MAX_VALUE}) {
            CHECK.due("a", w.rival(0, none, 1, 0), -1);
            CHECK.due("b", w.rival(0, 0, 1, none), -1);
            CHECK.due("A", w.rival(none, 0, 1, 0), -1);
            CHECK.due("B", w.rival(0, 0, none, 0), -1);
            CHECK.due("NONE ahead of BAD", w.rival(0, none, 0, none), -1);
            CHECK.due("NONE ahead of BAD", w.rival(1, 0, 1, none), -1);
        }
        CHECK.due("behind the last", w.rival(2, 0, 1, 0), -1);
        CHECK.due("behind the last", w.rival(1, 0, 2, 0), -1);
    }
}
