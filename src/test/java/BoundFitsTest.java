import java.util.ArrayList;
import java.util.Comparator;
import java.util.List;

/** Part 2 of the document and promises 8 to 13, sentence by sentence: just inside each bound and just outside it. */
public final class BoundFitsTest {
    private static final Check CHECK = new Check("BoundFitsTest");
    private static final int BELOW = -100000;
    /** A slot, one wide and six deep, in a block; edge 4 is its floor. */
    private static final String SLOT = "-10,0:0;10,0:0;10,8:0;1,8:0;1,2:0;0,2:0;0,8:0;-10,8:0";

    public static void main(String[] args) {
        anotherBit();
        onePlaster();
        aWayBackward();
        beginsWhereItEnds();
        toleranceOrLess();
        toleranceOf30();
        likenessAtFirst();
        likenessEitherWay();
        likenessNone();
        likenessBad();
        scoreOfLikeness();
        scoreOfThickness();
        scoreOfStraw();
        scoreRefused();
        turnedNone();
        fitsNone();
        fitNone();
        orderOfScores();
        orderOfBitsAndEdges();
        bestBothWays();
        rivalOfA();
        rivalOfB();
        rivalNought();
        rivalOfSeveral();
        rivalRefused();
        scoresOfAllEdges();
        fitsOfAllEdges();
        rivalsOfAllEdges();
        edgesThatThereAre();
        CHECK.end();
    }

    /** A bit that, laid on the slot's floor by its edge 1, has wide times high cells in the block. */
    private static String lid(int wide, int high) {
        return "-" + wide + ",0:0;0,0:0;1,0:0;1," + high + ":0;-" + wide + "," + high + ":0";
    }

    private static FrescoWall rectangles(String... colours) {
        FrescoWall w = new FrescoWall();
        for (String c : colours) {
            Check.bit(w, Check.box(2, 1, c), 5, -1, 0);
        }
        return w;
    }

    private static void anotherBit() {
        CHECK.of("2: EDGE a of BIT A FITS EDGE b of another BIT B");
        FrescoWall w = Check.squares(1);
        CHECK.due("its own ones are none", w.fits(0, 0), 0);
        CHECK.due("its own ones are none", w.fit(0, 0, 0), -1);
        Check.bit(w, Check.box(1, 1, "0000"), 5, -1, 0);
        CHECK.due("another one's", w.fits(0, 0), 4);
        CHECK.due("another one's", w.fit(0, 0, 0), 10);
    }

    private static void onePlaster() {
        CHECK.of("2: they have one PLASTER");
        FrescoWall w = new FrescoWall();
        for (int plaster : new int[] {4, 4, 5, 3}) {
            Check.bit(w, Check.box(1, 1, "0000"), 5, -1, plaster);
        }
        CHECK.due("one", w.score(0, 0, 1, 0), 27);
        CHECK.due("the next one", w.score(0, 0, 2, 0), -3);
        CHECK.due("the one ahead", w.score(0, 0, 3, 0), -3);
        CHECK.due("fits", w.fits(0, 0), 4);
    }

    private static void aWayBackward() {
        CHECK.of("2: there is a turn t of B (against A) by which b's way is a's way backward");
        FrescoWall w = new FrescoWall();
        // ways (2, 1), (1, 2), (2, 2), (3, 0) and (5, 0): as long ones, mirrored ones, others
        Check.bit(w, "0,0:0;2,1:0;0,2:0", 5, -1, 0);
        Check.bit(w, "0,0:0;1,2:0;0,2:0", 5, -1, 0);
        Check.bit(w, "0,0:0;2,2:0;0,3:0", 5, -1, 0);
        Check.bit(w, "0,0:0;5,0:0;2,4:0", 5, -1, 0);
        Check.bit(w, "0,0:0;4,3:0;0,5:0", 5, -1, 0);
        CHECK.due("mirrored", w.score(0, 0, 1, 0), -3);
        CHECK.due("longer", w.score(0, 0, 2, 0), -3);
        CHECK.due("as long, but never so", w.score(3, 0, 4, 0), -3);
        CHECK.due("a quarter", w.score(3, 0, 4, 2), 27);
        for (int t = 0; t < 4; t++) {
            FrescoWall v = new FrescoWall();
            Check.bit(v, "0,0:0;2,1:0;0,2:0", 5, -1, 0);
            // the way (-2, -1), turned back by t
            String[] others = {"2,1:0;0,0:0;2,-1:0", "1,-2:0;0,0:0;-1,-2:0", "-2,-1:0;0,0:0;-2,1:0", "-1,2:0;0,0:0;1,2:0"};
            CHECK.due("bit", Check.bit(v, others[t], 5, -1, 0), 1);
            CHECK.due("by a turn", v.score(0, 0, 1, 0), 27);
            CHECK.due("which one", v.turned(0, 0, 1, 0, 0), t);
        }
    }

    private static void beginsWhereItEnds() {
        CHECK.of("2: B is shifted so that b begins where a ends; Promise 10: what 0 t, 1 x, 2 y");
        FrescoWall w = new FrescoWall();
        Check.bit(w, "3,4:0;6,4:0;6,5:0;3,5:0", 5, -1, 0);
        Check.bit(w, "-7,-9:0;-4,-9:0;-4,-8:0;-7,-8:0", 5, -1, 0);
        // edge 1 leads up from (6, 4) to (6, 5): there the other one's begins, at (-7, -8), or turned at (4, 9)
        int[] left = {0, 13, 13};
        int[] right = {2, 2, -4};
        for (int what = 0; what <= 2; what++) {
            CHECK.due("left edge, what " + what, w.turned(0, 1, 1, 3, what), left[what]);
            CHECK.due("right edge, what " + what, w.turned(0, 1, 1, 1, what), right[what]);
        }
        CHECK.due("no quarter", w.turned(0, 1, 1, 0, 0), BELOW);
    }

    private static void toleranceOrLess() {
        CHECK.of("2: OVERLAP then is TOLERANCE or less");
        for (int n = 1; n <= 8; n++) {
            FrescoWall w = new FrescoWall();
            Check.bit(w, SLOT, 5, -1, 0);
            Check.bit(w, n <= 5 ? lid(n, 1) : n == 6 ? lid(3, 2) : n == 7 ? lid(7, 1) : lid(2, 4), 5, -1, 0);
            CHECK.due("overlap", w.overlap(0, 1, 0, 0, 2), n);
            for (int tolerance = 0; tolerance <= n + 1; tolerance++) {
                w.tolerance(tolerance);
                boolean fits = n <= tolerance;
                CHECK.due("score, " + n + " by " + tolerance, w.score(0, 4, 1, 1), fits ? 27 : -3);
                CHECK.due("the other way", w.score(1, 1, 0, 4), fits ? 27 : -3);
                CHECK.due("turned", w.turned(0, 4, 1, 1, 2), fits ? 2 : BELOW);
            }
        }
    }

    private static void toleranceOf30() {
        CHECK.of("1: TOLERANCE 0 .. 30; 2: OVERLAP then is TOLERANCE or less");
        FrescoWall w = new FrescoWall();
        Check.bit(w, SLOT, 5, -1, 0);
        Check.bit(w, lid(10, 3), 5, -1, 0);
        Check.bit(w, "-5,0:0;0,0:0;1,0:0;6,0:0;6,4:0;5,4:0;5,3:0;-5,3:0", 5, -1, 0);
        CHECK.due("overlap", w.overlap(0, 1, 0, 0, 2), 30);
        CHECK.due("overlap", w.overlap(0, 2, 0, 0, 2), 31);
        w.tolerance(30);
        CHECK.due("30", w.score(0, 4, 1, 1), 27);
        CHECK.due("31", w.score(0, 4, 2, 1), -3);
        w.tolerance(29);
        CHECK.due("30", w.score(0, 4, 1, 1), -3);
    }

    private static void likenessAtFirst() {
        CHECK.of("2: LIKENESS of both COLOURS: at first 9 of alike ones, else 0");
        FrescoWall w = new FrescoWall();
        for (int a = 0; a <= 9; a++) {
            for (int b = 0; b <= a; b++) {
                CHECK.due("likeness of " + a + ", " + b, w.likeness(a, b, 5), a == b ? 9 : 0);
            }
        }
    }

    private static void likenessEitherWay() {
        CHECK.of("2: LIKENESS (0 .. 9, told for two, either way); Promise 8: what it was");
        FrescoWall w = rectangles("1000", "2000");
        CHECK.due("at first", w.score(0, 0, 1, 0), 9);
        for (int n = 0; n <= 9; n++) {
            CHECK.due("one way", w.likeness(1, 2, n), n == 0 ? 0 : 10 - n);
            CHECK.due("score", w.score(0, 0, 1, 0), 9 + 2 * n);
            CHECK.due("score of the other one", w.score(1, 0, 0, 0), 9 + 2 * n);
            CHECK.due("the other way", w.likeness(2, 1, 9 - n), n);
            CHECK.due("score", w.score(0, 0, 1, 0), 9 + 2 * (9 - n));
        }
        CHECK.due("no others", w.likeness(1, 1, 0), 9);
        CHECK.due("no others", w.likeness(2, 2, 0), 9);
    }

    private static void likenessNone() {
        CHECK.of("Promise 8: NONE: COLOURS");
        FrescoWall w = new FrescoWall();
        for (int c : new int[] {-1, 10, Integer.MIN_VALUE, Integer.MAX_VALUE}) {
            CHECK.due("first " + c, w.likeness(c, 0, 5), -1);
            CHECK.due("second " + c, w.likeness(0, c, 5), -1);
            CHECK.due("NONE ahead of BAD", w.likeness(0, c, 10), -1);
            CHECK.due("NONE ahead of BAD", w.likeness(c, 0, -1), -1);
        }
        CHECK.due("0 and 9 are some", w.likeness(0, 9, 0), 0);
        CHECK.due("9 and 0 are some", w.likeness(9, 0, 0), 0);
    }

    private static void likenessBad() {
        CHECK.of("Promise 8: BAD");
        FrescoWall w = new FrescoWall();
        for (int n : new int[] {-1, 10, Integer.MIN_VALUE, Integer.MAX_VALUE}) {
            CHECK.due("likeness " + n, w.likeness(3, 4, n), -2);
        }
        CHECK.due("as it was", w.likeness(3, 4, 9), 0);
        CHECK.due("as it was", w.likeness(4, 3, 0), 9);
    }

    private static void scoreOfLikeness() {
        CHECK.of("2: SCORE: twice LIKENESS of both COLOURS");
        FrescoWall w = rectangles("1234", "1567");
        CHECK.due("alike", w.score(0, 0, 1, 0), 27);
        CHECK.due("not alike", w.score(0, 1, 1, 1), 9);
        w.likeness(2, 5, 4);
        CHECK.due("told", w.score(0, 1, 1, 1), 17);
    }

    private static void scoreOfThickness() {
        CHECK.of("2: 9 less how far THICKNESS differs (0 at least)");
        FrescoWall w = new FrescoWall();
        int[] thick = {1, 2, 9, 10, 11, 12, 99};
        int[] due = {0, 8, 1, 0, 0, 0, 0};
        for (int k = 0; k < thick.length; k++) {
            Check.bit(w, Check.box(2, 1, k == 0 ? "1234" : "5678"), thick[k], -1, 0);
        }
        for (int k = 1; k < thick.length; k++) {
            CHECK.due("1 and " + thick[k], w.score(0, 0, k, 0), due[k]);
            CHECK.due(thick[k] + " and 1", w.score(k, 0, 0, 0), due[k]);
        }
        CHECK.due("not less than nothing", w.likeness(1, 5, 1), 0);
        CHECK.due("likeness alone", w.score(0, 0, 6, 0), 2);
        CHECK.due("as thick", Check.bit(w, Check.box(2, 1, "9999"), 1, -1, 0), 7);
        CHECK.due("as thick", w.score(0, 0, 7, 0), 9);
    }

    private static void scoreOfStraw() {
        CHECK.of("2: 5 if both have STRAW, the same line then; 1: STRAW 2 t on, modulo 4");
        FrescoWall w = new FrescoWall();
        for (int straw = -1; straw <= 3; straw++) {
            Check.bit(w, Check.box(1, 1, "1111"), 1, straw, 0);
        }
        for (int straw = -1; straw <= 3; straw++) {
            Check.bit(w, Check.box(1, 1, "2222"), 50, straw, 0);
        }
        // by the left edge without a turn, by the upper one with a quarter, and so on
        int[] edge = {3, 2, 1, 0};
        for (int a = -1; a <= 3; a++) {
            for (int b = -1; b <= 3; b++) {
                for (int t = 0; t < 4; t++) {
                    boolean same = a >= 0 && b >= 0 && (b + 2 * t) % 4 == a;
                    CHECK.due("t", w.turned(a + 1, 1, b + 6, edge[t], 0), t);
                    CHECK.due("straw " + a + ", " + b + " by " + t, w.score(a + 1, 1, b + 6, edge[t]), same ? 5 : 0);
                }
            }
        }
    }

    private static void scoreRefused() {
        CHECK.of("Promise 9: STATE: they do not fit. NONE; BAD: one BIT");
        FrescoWall w = rectangles("0000", "0000");
        CHECK.due("score", w.score(0, 0, 1, 0), 27);
        CHECK.due("STATE", w.score(0, 0, 1, 1), -3);
        CHECK.due("one BIT", w.score(0, 0, 0, 2), -2);
        CHECK.due("one BIT and one EDGE", w.score(1, 1, 1, 1), -2);
        for (int none : new int[] {-1, 4, 8, Integer.MIN_VALUE, Integer.MAX_VALUE}) {
            CHECK.due("a", w.score(0, none, 1, 0), -1);
            CHECK.due("b", w.score(0, 0, 1, none), -1);
            CHECK.due("A", w.score(none, 0, 1, 0), -1);
            CHECK.due("B", w.score(0, 0, none, 0), -1);
            CHECK.due("NONE ahead of BAD", w.score(0, none, 0, 0), -1);
            CHECK.due("NONE ahead of BAD", w.score(0, 0, 0, none), -1);
            CHECK.due("NONE ahead of BAD", w.score(none, 0, none, 0), -1);
            CHECK.due("NONE ahead of STATE", w.score(0, 0, 1, none), -1);
        }
        CHECK.due("the last BIT", w.score(1, 3, 0, 3), 27);
        CHECK.due("behind the last", w.score(2, 3, 0, 3), -1);
        CHECK.due("behind the last", w.score(0, 3, 2, 3), -1);
    }

    private static void turnedNone() {
        CHECK.of("Promise 10: -100000: no FIT, too");
        FrescoWall w = rectangles("0000", "0000");
        CHECK.due("t", w.turned(0, 0, 1, 0, 0), 2);
        CHECK.due("x", w.turned(0, 0, 1, 0, 1), 2);
        CHECK.due("y", w.turned(0, 0, 1, 0, 2), 0);
        CHECK.due("no FIT", w.turned(0, 0, 1, 1, 0), BELOW);
        CHECK.due("one BIT", w.turned(0, 0, 0, 2, 0), BELOW);
        for (int none : new int[] {-1, 4, 8, Integer.MIN_VALUE, Integer.MAX_VALUE}) {
            CHECK.due("a", w.turned(0, none, 1, 0, 0), BELOW);
            CHECK.due("b", w.turned(0, 0, 1, none, 0), BELOW);
            CHECK.due("A", w.turned(none, 0, 1, 0, 0), BELOW);
            CHECK.due("B", w.turned(0, 0, none, 0, 0), BELOW);
            CHECK.due("what", w.turned(0, 0, 1, 0, none), BELOW);
        }
        CHECK.due("what", w.turned(0, 0, 1, 0, 3), BELOW);
        CHECK.due("B", w.turned(0, 0, 2, 0, 0), BELOW);
    }

    private static void fitsNone() {
        CHECK.of("Promise 11: How many FITS an EDGE has. NONE");
        FrescoWall w = rectangles("0000", "0000", "0000");
        CHECK.due("long", w.fits(0, 0), 4);
        CHECK.due("last", w.fits(2, 3), 4);
        for (int none : new int[] {-1, 4, 8, Integer.MIN_VALUE, Integer.MAX_VALUE}) {
            CHECK.due("edge " + none, w.fits(0, none), -1);
            CHECK.due("bit " + none, w.fits(none, 0), -1);
        }
        CHECK.due("behind the last", w.fits(3, 0), -1);
        Check.bit(w, "0,0:0;4,0:0;0,4:0", 5, -1, 0);
        CHECK.due("no FIT", w.fits(3, 0), 0);
        CHECK.due("the last of three", w.fits(3, 2), 0);
        CHECK.due("behind the last of three", w.fits(3, 3), -1);
    }

    private static void fitNone() {
        CHECK.of("Promise 12: FIT i of an EDGE, from 0 on: 10 times B, and b. NONE");
        FrescoWall w = rectangles("0000", "0000", "0000");
        int[] due = {10, 12, 20, 22};
        for (int i = 0; i < 4; i++) {
            CHECK.due("fit " + i, w.fit(0, 0, i), due[i]);
        }
        for (int i : new int[] {-1, 4, 5, Integer.MIN_VALUE, Integer.MAX_VALUE}) {
            CHECK.due("fit " + i, w.fit(0, 0, i), -1);
        }
        for (int none : new int[] {-1, 4, 8, Integer.MIN_VALUE, Integer.MAX_VALUE}) {
            CHECK.due("edge " + none, w.fit(0, none, 0), -1);
            CHECK.due("bit " + none, w.fit(none, 0, 0), -1);
        }
        CHECK.due("behind the last", w.fit(3, 0, 0), -1);
        FrescoWall v = new FrescoWall();
        for (int k = 0; k < 30; k++) {
            Check.bit(v, "0,0:0;1,0:0;2,0:0;3,0:0;3,1:0;2,1:0;1,1:0;0,1:0", 5, -1, 0);
        }
        CHECK.due("all of all others", v.fits(0, 0), 232);
        CHECK.due("the last one", v.fit(0, 0, 231), 297);
        CHECK.due("behind it", v.fit(0, 0, 232), -1);
    }

    private static void orderOfScores() {
        CHECK.of("2: FITS of an EDGE: in order of SCORE, the greatest first");
        FrescoWall w = new FrescoWall();
        Check.bit(w, Check.box(1, 2, "1111"), 10, 0, 0);
        // with the upper edges to one another: half a turn is none for the straw
        int[] thick = {1, 10, 6, 99, 13};
        int[] straw = {0, -1, 2, 0, 1};
        for (int k = 0; k < 5; k++) {
            Check.bit(w, Check.box(1, 2, "2212"), thick[k], straw[k], 0);
        }
        // 1: 18 + 0 + 5, 2: 18 + 9, 3: 18 + 5, 4: 18 + 0 + 5, 5: 18 + 6; the lower edge 18 less, its turn is half, too
        int[] due = {22, 52, 12, 32, 42, 20, 50, 10, 30, 40};
        int[] score = {27, 24, 23, 23, 23, 9, 6, 5, 5, 5};
        CHECK.due("fits", w.fits(0, 2), 10);
        for (int i = 0; i < 10; i++) {
            CHECK.due("fit " + i, w.fit(0, 2, i), due[i]);
            CHECK.due("score " + i, w.score(0, 2, due[i] / 10, due[i] % 10), score[i]);
        }
    }

    private static void orderOfBitsAndEdges() {
        CHECK.of("2: then by B, then by b");
        FrescoWall w = Check.squares(12);
        CHECK.due("fits", w.fits(5, 2), 44);
        int i = 0;
        for (int b = 0; b < 12; b++) {
            for (int edge = 0; edge < 4 && b != 5; edge++) {
                CHECK.due("fit " + i, w.fit(5, 2, i), 10 * b + edge);
                i++;
            }
        }
    }

    /** Bit 0 and 1 fit by their lower edges, of which the score is 18 + 9 or less by what is told for 1 and 2. */
    private static FrescoWall pair() {
        FrescoWall w = new FrescoWall();
        Check.bit(w, Check.box(2, 1, "1555"), 5, -1, 0);
        Check.bit(w, Check.box(2, 1, "2666"), 5, -1, 0);
        w.likeness(1, 2, 5);
        return w;
    }

    private static void bestBothWays() {
        CHECK.of("2: A FIT is BEST BOTH WAYS if no FIT of a and none of b has its SCORE or more but itself");
        for (int n = 0; n <= 9; n++) {
            FrescoWall w = pair();
            CHECK.due("best", w.rival(0, 0, 1, 0), -5);
            CHECK.due("best", w.rival(1, 0, 0, 0), -5);
            // another one for a
            Check.bit(w, Check.box(2, 5, "3777"), 5, -1, 0);
            w.likeness(1, 3, n);
            CHECK.due("a's other one, " + n, w.rival(0, 0, 1, 0), n < 5 ? -5 : 20);
            CHECK.due("told from b, " + n, w.rival(1, 0, 0, 0), n < 5 ? -5 : 20);
            // another one for b
            FrescoWall v = pair();
            Check.bit(v, Check.box(2, 5, "4777"), 5, -1, 0);
            v.likeness(2, 4, n);
            CHECK.due("b's other one, " + n, v.rival(0, 0, 1, 0), n < 5 ? -5 : 1020);
            CHECK.due("told from b, " + n, v.rival(1, 0, 0, 0), n < 5 ? -5 : 1020);
        }
    }

    private static void rivalOfA() {
        CHECK.of("2: RIVAL of a FIT: the first other FIT of a of that SCORE or more");
        FrescoWall w = rectangles("1555", "2666", "3777", "4888");
        w.likeness(1, 2, 3);
        w.likeness(1, 3, 5);
        w.likeness(1, 4, 5);
        CHECK.due("the greatest, not the next one", w.rival(0, 0, 1, 0), 20);
        CHECK.due("as great as itself", w.rival(0, 0, 2, 0), 30);
        CHECK.due("as great as itself, ahead of it", w.rival(0, 0, 3, 0), 20);
        w.likeness(1, 4, 6);
        CHECK.due("the greatest", w.rival(0, 0, 1, 0), 30);
        CHECK.due("ahead of it", w.rival(0, 0, 2, 0), 30);
        CHECK.due("none", w.rival(0, 0, 3, 0), -5);
    }

    private static void rivalOfB() {
        CHECK.of("2: RIVAL: else the first such of b; Promise 13: 1000 times the BIT of which the EDGE is (A or B), "
            + "10 times the other BIT, and its EDGE; -5: it is BEST BOTH WAYS");
        FrescoWall w = rectangles("1555", "2666", "3777", "4888", "9999");
        w.likeness(1, 2, 3);
        w.likeness(2, 3, 3);
        w.likeness(2, 4, 4);
        CHECK.due("b's first one", w.rival(0, 0, 1, 0), 1030);
        CHECK.due("a's first one, b is A here", w.rival(1, 0, 0, 0), 1030);
        w.likeness(1, 9, 3);
        CHECK.due("one of a goes ahead of those of b", w.rival(0, 0, 1, 0), 40);
        CHECK.due("one of 1 goes ahead of those of 0", w.rival(1, 0, 0, 0), 1030);
        w.likeness(2, 3, 0);
        w.likeness(2, 4, 2);
        CHECK.due("none of 1, one of 0", w.rival(1, 0, 0, 0), 40);
        CHECK.due("the first one of three", w.rival(0, 0, 4, 2), 10);
        CHECK.due("the first other one of three", w.rival(0, 0, 1, 0), 40);
    }

    private static void rivalNought() {
        CHECK.of("Promise 13: 10 times the other BIT, and its EDGE (0, BIT 0 and EDGE 0, too); -5: it is BEST BOTH WAYS");
        FrescoWall w = rectangles("1555", "2666", "3777");
        w.likeness(2, 3, 3);
        CHECK.due("best", w.rival(1, 0, 2, 0), -5);
        w.likeness(1, 3, 3);
        CHECK.due("b's is EDGE 0 of BIT 0", w.rival(1, 0, 2, 0), 2000);
        CHECK.due("a's is EDGE 0 of BIT 0", w.rival(2, 0, 1, 0), 2000);
        w.likeness(1, 3, 2);
        CHECK.due("best", w.rival(1, 0, 2, 0), -5);
        w.likeness(1, 2, 4);
        CHECK.due("the other one's is EDGE 0 of BIT 0", w.rival(1, 0, 2, 0), 1000);
        CHECK.due("the other one's is EDGE 0 of BIT 0", w.rival(2, 0, 1, 0), 1000);
    }

    private static void rivalOfSeveral() {
        CHECK.of("2: RIVAL: the first other FIT (in order of SCORE, then by B, then by b)");
        FrescoWall w = Check.squares(3);
        CHECK.due("the first one", w.rival(1, 0, 2, 3), 1000);
        CHECK.due("the first one but itself", w.rival(1, 0, 0, 0), 1001);
        CHECK.due("the first one but itself", w.rival(0, 3, 1, 0), 11);
        CHECK.due("the first one", w.rival(0, 3, 1, 1), 10);
        CHECK.due("the first one", w.rival(2, 3, 1, 3), 2000);
    }

    private static void rivalRefused() {
        CHECK.of("Promise 13: NONE; BAD; STATE: no FIT");
        FrescoWall w = rectangles("0000", "0000");
        CHECK.due("STATE", w.rival(0, 0, 1, 1), -3);
        CHECK.due("BAD", w.rival(0, 0, 0, 2), -2);
        CHECK.due("BAD ahead of STATE", w.rival(0, 0, 0, 1), -2);
        for (int none : new int[] {-1, 4, 8, Integer.MIN_VALUE, Integer.MAX_VALUE}) {
            CHECK.due("a", w.rival(0, none, 1, 0), -1);
            CHECK.due("b", w.rival(0, 0, 1, none), -1);
            CHECK.due("A", w.rival(none, 0, 1, 0), -1);
            CHECK.due("B", w.rival(0, 0, none, 0), -1);
            CHECK.due("NONE ahead of BAD", w.rival(0, none, 0, none), -1);
            CHECK.due("NONE ahead of BAD", w.rival(1, 0, 1, none), -1);
        }
        CHECK.due("behind the last", w.rival(2, 0, 1, 0), -1);
        CHECK.due("behind the last", w.rival(1, 0, 2, 0), -1);
    }

    // ---- four bits of one shape, told from different corners on; their answers are told once more by plain sums

    private static final int[] THICK = {5, 7, 12, 15};
    private static final int[] STRAW = {0, 2, 1, -1};
    private static final int[][] CORNERS = {{0, 0}, {1, 0}, {1, 2}, {0, 2}};

    private static int colour(int bit, int edge) {
        return (4 * bit + 3 * edge) % 10;
    }

    private static int like(int one, int other) {
        return (one + other) * (one * other + 3) % 7 + (one == other ? 3 : 0);
    }

    /** Bit 0 begins with its lower edge, bit 1 with its right one, and so on. */
    private static int side(int bit, int edge) {
        return (bit + edge) % 4;
    }

    /** Sides are 1 and 2 long, by turns, and two of one length always fit. */
    private static boolean fit(int a, int edge, int b, int other) {
        return a != b && (side(a, edge) - side(b, other)) % 2 == 0;
    }

    private static int turn(int a, int edge, int b, int other) {
        return (side(a, edge) + 2 - side(b, other) + 4) % 4;
    }

    private static int score(int a, int edge, int b, int other) {
        int sum = 2 * like(colour(a, edge), colour(b, other)) + Math.max(0, 9 - Math.abs(THICK[a] - THICK[b]));
        boolean line = STRAW[a] >= 0 && STRAW[b] >= 0 && STRAW[a] == (STRAW[b] + 2 * turn(a, edge, b, other)) % 4;
        return line ? sum + 5 : sum;
    }

    private static FrescoWall fourBits() {
        FrescoWall w = new FrescoWall();
        for (int bit = 0; bit < 4; bit++) {
            StringBuilder text = new StringBuilder();
            for (int edge = 0; edge < 4; edge++) {
                int[] corner = CORNERS[side(bit, edge)];
                text.append(edge == 0 ? "" : ";").append(corner[0]).append(',').append(corner[1]);
                text.append(':').append(colour(bit, edge));
            }
            Check.bit(w, text.toString(), THICK[bit], STRAW[bit], 0);
        }
        for (int one = 0; one <= 9; one++) {
            for (int other = one; other <= 9; other++) {
                w.likeness(one, other, like(one, other));
            }
        }
        return w;
    }

    /** 10 times B, and b, of the fits of an edge in their order. */
    private static List<Integer> order(int a, int edge) {
        List<Integer> fits = new ArrayList<>();
        for (int key = 0; key < 40; key++) {
            if (key % 10 < 4 && fit(a, edge, key / 10, key % 10)) {
                fits.add(key);
            }
        }
        // the sort leaves those of one score as they are
        fits.sort(Comparator.comparingInt(key -> -score(a, edge, key / 10, key % 10)));
        return fits;
    }

    private static int rival(int a, int edge, int b, int other) {
        int own = score(a, edge, b, other);
        for (int key : order(a, edge)) {
            if (key != 10 * b + other && score(a, edge, key / 10, key % 10) >= own) {
                return 1000 * a + key;
            }
        }
        for (int key : order(b, other)) {
            if (key != 10 * a + edge && score(b, other, key / 10, key % 10) >= own) {
                return 1000 * b + key;
            }
        }
        return -5;
    }

    /** What is due for a pair of edges if they fit, by how the call tells that they don't. */
    private static int dueOf(int a, int edge, int b, int other, int fitting) {
        if (a == b) {
            return -2;
        }
        return fit(a, edge, b, other) ? fitting : -3;
    }

    private static void scoresOfAllEdges() {
        CHECK.of("2: SCORE: twice LIKENESS, and 9 less how far THICKNESS differs, and 5 (of each EDGE with each other one)");
        FrescoWall w = fourBits();
        FrescoWall v = fourBits();
        for (int k = 0; k < 256; k++) {
            int a = k >> 6;
            int edge = k >> 4 & 3;
            int b = k >> 2 & 3;
            int other = k & 3;
            String pair = "(" + a + ", " + edge + ", " + b + ", " + other + ")";
            CHECK.due("score" + pair, w.score(a, edge, b, other), dueOf(a, edge, b, other, score(a, edge, b, other)));
            int due = fit(a, edge, b, other) ? turn(a, edge, b, other) : BELOW;
            CHECK.due("t of " + pair, v.turned(a, edge, b, other, 0), due);
        }
    }

    private static void fitsOfAllEdges() {
        CHECK.of("2: FITS of an EDGE: in order of SCORE, the greatest first, then by B, then by b (of each EDGE)");
        FrescoWall w = fourBits();
        for (int a = 0; a < 4; a++) {
            for (int edge = 0; edge < 4; edge++) {
                CHECK.due("fits(" + a + ", " + edge + ")", w.fits(a, edge), 6);
                for (int i = 0; i < 6; i++) {
                    CHECK.due("fit(" + a + ", " + edge + ", " + i + ")", w.fit(a, edge, i), order(a, edge).get(i));
                }
            }
        }
    }

    private static void rivalsOfAllEdges() {
        CHECK.of("2: RIVAL; Promise 13: -5: it is BEST BOTH WAYS (of each EDGE with each other one)");
        FrescoWall w = fourBits();
        FrescoWall v = fourBits();
        int best = 0;
        for (int k = 0; k < 256; k++) {
            int a = k >> 6;
            int edge = k >> 4 & 3;
            int b = k >> 2 & 3;
            int other = k & 3;
            int due = dueOf(a, edge, b, other, rival(a, edge, b, other));
            String pair = "(" + a + ", " + edge + ", " + b + ", " + other + ")";
            CHECK.due("rival" + pair, w.rival(a, edge, b, other), due);
            if (due != -2 && due != -3 && v.count(8) < 60) {
                int join = v.join(a, edge, b, other);
                CHECK.due("best" + pair, v.joined(join, 4), due == -5 ? 1 : 0);
                v.undo(join);
            }
            best += due == -5 ? 1 : 0;
        }
        CHECK.due("some are best", best > 3 ? 1 : 0, 1);
    }

    private static void edgesThatThereAre() {
        CHECK.of("1: CORNERS, 3 to 8; 2: FITS of an EDGE (of bits of few EDGES and of many)");
        String eight = "0,0:0;1,0:0;2,0:0;3,0:0;3,1:0;2,1:0;1,1:0;0,1:0";
        String three = "0,0:0;1,0:0;0,1:0";
        // whichever of them came first
        for (int first = 0; first < 2; first++) {
            FrescoWall w = new FrescoWall();
            Check.bit(w, first == 0 ? eight : three, 5, -1, 0);
            Check.bit(w, first == 0 ? three : eight, 5, -1, 0);
            for (int edge = 0; edge < 8; edge++) {
                CHECK.due("of eight", w.fits(first, edge), 2);
                CHECK.due("of eight", w.fit(first, edge, 0), 10 - 10 * first);
                CHECK.due("of eight", w.fit(first, edge, 1), 12 - 10 * first);
            }
            for (int edge = 0; edge < 3; edge++) {
                CHECK.due("of three", w.fits(1 - first, edge), edge == 1 ? 0 : 8);
                CHECK.due("of three", w.fit(1 - first, edge, 7), edge == 1 ? -1 : 10 * first + 7);
            }
            CHECK.due("of none", w.fits(1 - first, 3), -1);
            CHECK.due("of none", w.fits(first, 8), -1);
        }
    }
}
