import java.util.ArrayList;
import java.util.List;

/** Part 1 of the document and promises 1 to 7, sentence by sentence: just inside each bound and just outside it. */
public final class BoundBitsTest {
    private static final Check CHECK = new Check("BoundBitsTest");
    private static final int BELOW = -100000;
    private static final String TRIANGLE = "0,0:1;3,0:1;0,3:1";
    private static final String EIGHT = "0,0:1;1,0:1;2,0:1;3,0:1;3,1:1;2,1:1;1,1:1;0,1:9";

    public static void main(String[] args) {
        newObject();
        tapeOf240();
        lowestBytesHighestFirst();
        bytesOfAFeed();
        thirtyBits();
        threeToEightCorners();
        coordinatesTo20();
        twoDigits();
        noZeroAhead();
        noMinusZero();
        colours();
        fiveSpots();
        noBlanks();
        firstWrongByte();
        endsTooEarly();
        lastDigitOfAGreatNumber();
        edgesOfNoLength();
        edgesInCommon();
        neighboursInCommon();
        counterclockwise();
        middlesWithin();
        spotsAreCells();
        spotsOnce();
        thickness();
        straw();
        plaster();
        badLeavesTheTape();
        emptyTapeBehindABit();
        faultThenRingThenSpot();
        aboutNone();
        aboutValues();
        cornerNone();
        turnedCells();
        overlapNone();
        overlapOfOneBit();
        overlapTurns();
        overlapPlaces();
        overlapCounts();
        overlapFarAway();
        tolerances();
        fiveHundredAndTwelveCalls();
        CHECK.end();
    }

    private static void dueBit(String text, int answer) {
        FrescoWall w = new FrescoWall();
        CHECK.due("bit of " + text, Check.bit(w, text, 5, 0, 0), answer);
        CHECK.due("tape behind " + text, w.count(7), 0);
        CHECK.due("bits behind " + text, w.count(0), answer == 0 ? 1 : 0);
    }

    private static void dueFault(String text, int place) {
        dueBit(text, -10 - place);
    }

    /** A ring is one from whichever corner it begins, and however it is turned. */
    private static void dueRing(String text, int answer) {
        for (String same : asWell(text)) {
            dueBit(same, answer);
        }
    }

    private static List<String> asWell(String text) {
        String[] corners = text.split(";");
        List<String> found = new ArrayList<>();
        for (int t = 0; t < 4; t++) {
            for (int first = 0; first < corners.length; first++) {
                StringBuilder turned = new StringBuilder();
                for (int k = 0; k < corners.length; k++) {
                    String[] parts = corners[(first + k) % corners.length].split("[,:]");
                    int x = Integer.parseInt(parts[0]);
                    int y = Integer.parseInt(parts[1]);
                    for (int quarter = 0; quarter < t; quarter++) {
                        int before = x;
                        x = -y;
                        y = before;
                    }
                    turned.append(k == 0 ? "" : ";").append(x).append(',').append(y).append(':').append(parts[2]);
                }
                found.add(turned.toString());
            }
        }
        return found;
    }

    private static void newObject() {
        CHECK.of("Promise 1: No BITS, no PHOTOGRAPH");
        FrescoWall w = new FrescoWall();
        CHECK.due("bits", w.count(0), 0);
        CHECK.due("about", w.about(0, 0), BELOW);
        CHECK.due("fits", w.fits(0, 0), -1);
        CHECK.due("first number", Check.bit(w, TRIANGLE + "|0,0=1", 5, 0, 0), 0);
        CHECK.due("no photograph", w.agree(0, 0, 0, 0), -3);
        CHECK.due("no photograph", w.best(0, 0), -100001);
        Check.photograph(w, "1", 0, 0, 0);
        CHECK.due("a photograph", w.agree(0, 0, 0, 0), 1);
        CHECK.due("a photograph", w.best(0, 0), 1);
    }

    private static void tapeOf240() {
        CHECK.of("1: THE TAPE (bytes, 240 at most); Promise 2: FULL");
        for (int room = 0; room <= 8; room++) {
            FrescoWall w = new FrescoWall();
            CHECK.due("feed", Check.feed(w, "x".repeat(240 - room)), 240 - room);
            for (int n = room + 1; n <= 8; n++) {
                CHECK.due(n + " where " + room + " have room", w.feed(0, n), -4);
            }
            CHECK.due("bytes", w.count(7), 240 - room);
            if (room > 0) {
                CHECK.due(room + " where just they have room", w.feed(0, room), 240);
                CHECK.due("one more", w.feed(0, 1), -4);
            }
        }
        FrescoWall w = new FrescoWall();
        Check.bit(w, TRIANGLE, 55, 0, 0);
        Check.feed(w, "!".repeat(236) + "t=5");
        CHECK.due("FULL", w.feed('6' << 8 | '6', 2), -4);
        CHECK.due("bytes", w.count(7), 239);
        CHECK.due("one more", w.feed('5', 1), 240);
        CHECK.due("the bytes are those that had room", w.ask(), 1);
    }

    private static void lowestBytesHighestFirst() {
        CHECK.of("Promise 2: The n lowest bytes of w, the highest first, come behind THE TAPE's: how many it has");
        String text = "t=1|t>89";
        for (int n = 1; n <= 8; n++) {
            FrescoWall w = new FrescoWall();
            Check.bit(w, TRIANGLE, 1, 0, 0);
            Check.bit(w, TRIANGLE, 90, 0, 0);
            // what stands above the n lowest bytes is no matter
            long bytes = -1L;
            for (int k = 0; k < n; k++) {
                bytes = bytes << 8 | text.charAt(k);
            }
            CHECK.due("feed of " + n, w.feed(bytes, n), n);
            for (int k = n; k < 8; k++) {
                CHECK.due("feed of one", w.feed(0x5555555555555500L | text.charAt(k), 1), k + 1);
            }
            CHECK.due("ask", w.ask(), 2);
        }
        FrescoWall w = new FrescoWall();
        w.feed('t' << 24 | '=' << 16 | '1' << 8 | 0xB9, 4);
        CHECK.due("a byte above 127 is a byte", w.ask(), -13);
        w.feed(Long.MIN_VALUE, 8);
        CHECK.due("a highest byte of 128", w.ask(), -10);
    }

    private static void bytesOfAFeed() {
        CHECK.of("Promise 2: BAD: n not 1 .. 8");
        FrescoWall w = new FrescoWall();
        for (int n : new int[] {0, 9, -1, -8, 64, Integer.MIN_VALUE, Integer.MAX_VALUE}) {
            CHECK.due("feed of " + n, w.feed(-1L, n), -2);
        }
        CHECK.due("bytes", w.count(7), 0);
        CHECK.due("feed of 1", w.feed('t', 1), 1);
        CHECK.due("feed of 9", w.feed('=', 9), -2);
        CHECK.due("feed of 8", w.feed(0, 8), 9);
        Check.feed(w, "!".repeat(231));
        CHECK.due("BAD ahead of FULL", w.feed(0, 9), -2);
        CHECK.due("BAD ahead of FULL", w.feed(0, 0), -2);
        CHECK.due("bytes", w.count(7), 240);
    }

    private static void thirtyBits() {
        CHECK.of("1: BITS are numbered from 0 on, 30 at most; Promise 3: FULL (THE TAPE stays)");
        FrescoWall w = new FrescoWall();
        for (int k = 0; k < 30; k++) {
            CHECK.due("bit", Check.bit(w, TRIANGLE, k + 1, 0, 0), k);
        }
        Check.feed(w, TRIANGLE);
        CHECK.due("one too many", w.bit(1, 0, 0), -4);
        CHECK.due("bits", w.count(0), 30);
        CHECK.due("tape", w.count(7), TRIANGLE.length());
        CHECK.due("BAD ahead of FULL", w.bit(100, 0, 0), -2);
        CHECK.due("the last one", w.about(29, 4), 30);
        CHECK.due("none behind it", w.about(30, 4), BELOW);
        CHECK.due("the tape is as it was, a digit and no digit", w.photograph(0, 0, 0), -11);
    }

    private static void threeToEightCorners() {
        CHECK.of("1: CORNERS, 3 to 8, with ; between");
        dueFault("0,0:1", 5);
        dueFault("0,0:1;3,0:1", 11);
        dueFault("0,0:1;3,0:1|0,0=1", 11);
        dueBit(TRIANGLE, 0);
        dueBit(TRIANGLE + "|0,0=1", 0);
        dueBit(EIGHT.substring(0, 35) + ";1,1:1;0,1:9", 0);
        dueBit(EIGHT, 0);
        dueBit(EIGHT + "|2,0=1", 0);
        dueFault(EIGHT + ";", 47);
        dueFault(EIGHT + ";0,2:1", 47);
        FrescoWall w = new FrescoWall();
        Check.bit(w, TRIANGLE, 5, 0, 0);
        Check.bit(w, EIGHT, 5, 0, 0);
        CHECK.due("edges", w.about(0, 0), 3);
        CHECK.due("edges", w.about(1, 0), 8);
    }

    private static void coordinatesTo20() {
        CHECK.of("1: x, y -20 .. 20");
        dueBit("20,0:1;0,20:1;0,0:1", 0);
        dueBit("19,0:1;0,19:1;0,0:1", 0);
        dueFault("21,0:1;0,20:1;0,0:1", 1);
        dueFault("20,0:1;0,21:1;0,0:1", 10);
        dueBit("-20,0:1;0,-20:1;0,0:1", 0);
        dueFault("-21,0:1;0,-20:1;0,0:1", 2);
        dueFault("-20,0:1;0,-21:1;0,0:1", 12);
        String great = "0,0:1;20,0:1;0,20:1";
        // a spot that is told well but lies beside the ring is none
        dueBit(great + "|18,0=5", 0);
        dueBit(great + "|20,0=5", -6);
        dueFault(great + "|21,0=5", 21);
        dueBit(great + "|0,20=5", -6);
        dueFault(great + "|0,21=5", 23);
        dueBit(great + "|-20,0=5", -6);
        dueFault(great + "|-21,0=5", 22);
        dueBit(great + "|0,-20=5", -6);
        dueFault(great + "|0,-21=5", 24);
        FrescoWall w = new FrescoWall();
        Check.bit(w, "-20,-20:1;20,-20:2;20,20:3;-20,20:4|-20,-20=7|19,19=8", 5, 0, 0);
        int[] x = {-20, 20, 20, -20};
        int[] y = {-20, -20, 20, 20};
        for (int k = 0; k < 4; k++) {
            CHECK.due("x of " + k, w.corner(0, k, 0), x[k]);
            CHECK.due("y of " + k, w.corner(0, k, 1), y[k]);
        }
        CHECK.due("cells", w.about(0, 2), 1600);
        CHECK.due("twice the area", w.about(0, 1), 3200);
        CHECK.due("spots", w.about(0, 3), 2);
    }

    private static void twoDigits() {
        CHECK.of("1: perhaps -, then 1 or 2 digits");
        dueBit("9,0:1;10,1:1;9,1:1", 0);
        dueBit("-9,0:1;-8,0:1;-10,1:1", 0);
        dueFault("100,0:1", 2);
        dueFault("200,0:1", 2);
        dueFault("-100,0:1", 3);
        dueFault("0,100:1", 4);
        dueFault("--1,0:1", 1);
        dueFault("-,0:1", 1);
        dueFault("+1,0:1", 0);
        dueFault(",0:1", 0);
        dueFault("1-,0:1", 1);
        dueFault("0,:1", 2);
        dueFault("0,-:1", 3);
        dueFault(TRIANGLE + "|,0=1", 18);
        dueFault(TRIANGLE + "|100,0=1", 20);
    }

    private static void noZeroAhead() {
        CHECK.of("1: no 0 ahead of another");
        dueFault("00,0:1", 1);
        dueFault("01,0:1", 1);
        dueFault("0,00:1", 3);
        dueFault("0,09:1", 3);
        dueFault("-01,0:1", 1);
        dueFault(TRIANGLE + "|00,0=1", 19);
        dueFault(TRIANGLE + "|0,01=1", 21);
        dueBit("0,0:1;10,0:1;0,20:1", 0);
    }

    private static void noMinusZero() {
        CHECK.of("1: no -0");
        dueFault("-0,0:1", 1);
        dueFault("0,-0:1", 3);
        dueFault(TRIANGLE + "|-0,0=1", 19);
        dueFault(TRIANGLE + "|0,-0=1", 21);
        dueBit("-1,0:1;0,-1:1;0,0:1", 0);
    }

    private static void colours() {
        CHECK.of("1: c the COLOUR 0 .. 9 of the EDGE that begins there");
        dueBit("0,0:0;3,0:9;0,3:5|0,0=0|1,0=9", 0);
        // the bytes next to the digits
        dueFault("0,0:/", 4);
        dueFault("0,0::", 4);
        dueFault("0,0:;", 4);
        dueFault("0,0:10;", 5);
        dueFault("0,0:-1;", 4);
        dueFault("/,0:1", 0);
        dueFault(":,0:1", 0);
        dueFault("1/,0:1", 1);
        dueFault("1:,0:1", 1);
        dueFault("0,/:1", 2);
        dueFault(TRIANGLE + "|0,0=/", 22);
        dueFault(TRIANGLE + "|0,0=:", 22);
        dueFault(TRIANGLE + "|0,0=12", 23);
        FrescoWall w = new FrescoWall();
        Check.bit(w, "0,0:0;3,0:9;0,3:5", 5, 0, 0);
        int[] due = {0, 9, 5};
        for (int k = 0; k < 3; k++) {
            CHECK.due("colour of " + k, w.corner(0, k, 2), due[k]);
        }
    }

    private static void fiveSpots() {
        CHECK.of("1: SPOTS, up to 5, each: | x,y=c");
        String[] spots = {"|0,0=5", "|1,0=5", "|2,0=5", "|0,1=5", "|1,1=5", "|0,2=5"};
        StringBuilder text = new StringBuilder("0,0:1;4,0:1;0,4:1");
        for (int k = 0; k <= 5; k++) {
            FrescoWall w = new FrescoWall();
            CHECK.due("bit with " + k, Check.bit(w, text.toString(), 5, 0, 0), 0);
            CHECK.due("spots", w.about(0, 3), k);
            text.append(spots[k]);
        }
        dueFault(text.toString(), 17 + 5 * 6);
        dueFault(text.substring(0, 17 + 5 * 6 + 1), 17 + 5 * 6);
        dueFault(TRIANGLE + "|0,0:1", 21);
        dueFault(TRIANGLE + "|0;0=1", 19);
        dueFault(TRIANGLE + ";0,0=1", 21);
        dueFault(TRIANGLE + "|0,0=1;0,0:1", 23);
    }

    private static void noBlanks() {
        CHECK.of("1: (without blanks)");
        String text = "-1,-1:1;12,0:2;0,13:3|1,1=4|2,2=5";
        dueBit(text, 0);
        for (int k = 0; k <= text.length(); k++) {
            dueFault(text.substring(0, k) + " " + text.substring(k), k);
        }
    }

    private static void firstWrongByte() {
        CHECK.of("1: FAULT: the place of the first byte with which no BIT can go on");
        String text = "-1,-1:1;12,0:2;0,13:3|1,1=4|2,2=5";
        for (int k = 0; k < text.length(); k++) {
            dueFault(text.substring(0, k) + "x" + text.substring(k + 1), k);
            dueFault(text.substring(0, k) + (char) 0 + "x" + text.substring(k), k);
            dueFault(text.substring(0, k) + (char) 255 + text.substring(k), k);
        }
        dueFault(text + "x", text.length());
        dueFault("x".repeat(240), 0);
    }

    private static void endsTooEarly() {
        CHECK.of("1: (the size of THE TAPE, if it ends too early");
        String text = "-1,-1:1;12,0:2;0,13:3|1,1=4|2,2=5";
        for (int k = 0; k <= text.length(); k++) {
            boolean whole = k == 21 || k == 27 || k == 33;
            dueBit(text.substring(0, k), whole ? 0 : -10 - k);
        }
    }

    private static void lastDigitOfAGreatNumber() {
        CHECK.of("1: a number that is too great: its last digit)");
        for (int n = 0; n <= 99; n++) {
            String text = n + ",0:1;0,20:1;-20,0:1";
            if (n > 20) {
                dueFault(text, 1);
                dueFault("-" + text, 2);
                dueFault("0," + n + ":1", 3);
                dueFault(TRIANGLE + "|" + n + ",0=1", 19);
            } else {
                dueBit(text, 0);
            }
        }
    }

    private static void edgesOfNoLength() {
        CHECK.of("1: RING: no EDGE of no length");
        String[] corners = {"0,0:1", "2,0:1", "2,2:1", "0,2:1"};
        dueRing(String.join(";", corners), 0);
        for (int k = 0; k < 4; k++) {
            StringBuilder text = new StringBuilder();
            for (int m = 0; m < 4; m++) {
                text.append(m == 0 ? "" : ";").append(corners[m]).append(m == k ? ";" + corners[m] : "");
            }
            dueRing(text.toString(), -5);
        }
        dueRing("0,0:1;2,0:1;2,2:1;0,2:1;0,0:1", -5);
        dueRing("0,0:1;0,0:1;0,0:1", -5);
        // one long is long enough
        dueRing("0,0:1;1,0:1;0,1:1", 0);
    }

    private static void edgesInCommon() {
        CHECK.of("1: RING: no two EDGES have a point in common");
        // a notch that stops above the lower edge, on it, below it
        dueRing("0,0:1;4,0:1;4,4:1;2,1:1;0,4:1", 0);
        dueRing("0,0:1;4,0:1;4,4:1;2,0:1;0,4:1", -5);
        dueRing("0,0:1;4,0:1;4,4:1;2,-1:1;0,4:1", -5);
        // the same from the right, the upper, the left side
        dueRing("4,0:1;4,4:1;0,4:1;3,2:1;0,0:1", 0);
        dueRing("4,0:1;4,4:1;0,4:1;4,2:1;0,0:1", -5);
        dueRing("4,4:1;0,4:1;0,0:1;2,3:1;4,0:1", 0);
        dueRing("4,4:1;0,4:1;0,0:1;2,4:1;4,0:1", -5);
        dueRing("0,4:1;0,0:1;4,0:1;1,2:1;4,4:1", 0);
        dueRing("0,4:1;0,0:1;4,0:1;0,2:1;4,4:1", -5);
        // a corner on a corner, and one beside it
        dueRing("0,0:1;4,0:1;2,2:1;4,4:1;0,4:1;2,2:1", -5);
        dueRing("0,0:1;4,0:1;2,2:1;4,4:1;0,4:1;1,2:1", 0);
        // crossed within both
        dueRing("0,0:1;4,4:1;4,0:1;0,3:1", -5);
        dueRing("0,0:1;5,0:1;0,1:1;5,1:1", -5);
        // crossed aslant, and nearly
        dueRing("0,0:1;3,1:1;1,3:1;0,8:1;2,2:1;-5,9:1", -5);
        dueRing("0,0:1;8,6:1;1,5:1;5,2:1", -5);
        dueRing("0,0:1;8,6:1;1,5:1;5,4:1", 0);
        dueRing("0,0:1;7,2:1;-4,5:1;4,2:1;-4,3:1", 0);
        dueRing("0,0:1;7,2:1;-4,5:1;4,1:1;-4,3:1", -5);
        dueRing("0,0:1;6,3:1;-4,5:1;4,2:1;-4,3:1", -5);
        // on one line: apart, with a point, with a piece in common
        dueRing("0,0:1;6,0:1;6,2:1;4,2:1;4,1:1;2,1:1;2,2:1;0,2:1", 0);
        dueRing("0,0:1;6,0:1;6,2:1;3,2:1;4,1:1;2,1:1;3,2:1;0,2:1", -5);
        dueRing("0,0:1;6,0:1;6,2:1;2,2:1;4,1:1;2,1:1;4,2:1;0,2:1", -5);
    }

    private static void neighboursInCommon() {
        CHECK.of("1: RING: but neighbours their CORNER");
        // straight on is a corner, straight back is none
        dueRing("0,0:1;2,0:1;4,0:1;4,4:1", 0);
        dueRing("0,0:1;4,0:1;2,0:1;2,4:1", -5);
        dueRing("0,0:1;4,0:1;4,4:1;4,2:1;0,2:1", -5);
        dueRing("0,0:1;4,0:1;4,4:1;0,4:1;0,-2:1", -5);
        dueRing("0,2:1;0,-2:1;4,-2:1;4,2:1;0,2:1;0,1:1", -5);
        dueRing("0,0:1;4,4:1;2,2:1;0,4:1", -5);
        // nearly back, by as little as can be
        dueRing("0,0:1;20,0:1;0,1:1", 0);
        dueRing("0,0:1;20,19:1;19,18:1", -5);
        dueRing("0,0:1;19,18:1;20,19:1", 0);
    }

    private static void counterclockwise() {
        CHECK.of("1: it goes round counterclockwise (x to the right, y up)");
        dueRing("0,0:1;1,0:1;0,1:1", 0);
        dueRing("0,0:1;0,1:1;1,0:1", -5);
        dueRing("0,0:1;2,0:1;2,2:1;0,2:1", 0);
        dueRing("0,0:1;0,2:1;2,2:1;2,0:1", -5);
        // most of its turns go the other way, the ring does not
        dueRing("0,0:1;9,0:1;9,9:1;8,2:1;4,1:1;2,2:1;1,9:1;0,9:1", 0);
        dueRing("0,9:1;1,9:1;2,2:1;4,1:1;8,2:1;9,9:1;9,0:1;0,0:1", -5);
        dueRing("0,0:1;1,0:1;2,0:1", -5);
        dueRing("0,0:1;2,0:1;1,0:1", -5);
    }

    private static void dueCells(String text, int cells) {
        for (String same : asWell(text)) {
            FrescoWall w = new FrescoWall();
            CHECK.due("bit of " + same, Check.bit(w, same, 5, 0, 0), 0);
            CHECK.due("cells of " + same, w.about(0, 2), cells);
        }
    }

    private static void middlesWithin() {
        CHECK.of("1: CELLS: those of a BIT whose middle lies within its RING (on an EDGE does not)");
        dueCells("0,0:1;1,0:1;0,1:1", 0);
        dueCells("0,0:1;2,0:1;0,1:1", 1);
        dueCells("0,0:1;1,0:1;1,1:1", 0);
        dueCells("0,0:1;2,0:1;2,1:1", 1);
        dueCells("0,0:1;3,0:1;0,3:1", 3);
        dueCells("0,0:1;3,0:1;3,1:1;0,3:1", 6);
        dueCells("0,0:1;1,0:1;1,1:1;0,1:1", 1);
        dueCells("0,0:1;2,0:1;0,2:1;-2,0:1", 2);
        dueCells("1,0:1;2,1:1;1,2:1;0,1:1", 0);
        dueCells("2,0:1;4,2:1;2,4:1;0,2:1", 4);
        // an upper and a lower end of its own each way
        dueCells("1,0:1;5,1:1;4,5:1;0,4:1", 17);
        // the middle of (0, 1) is on an edge
        dueCells("0,3:1;1,0:1;4,2:1", 5);
        FrescoWall w = new FrescoWall();
        Check.bit(w, TRIANGLE, 5, 0, 0);
        w.put(0, 0, 0, 0);
        for (int x = -1; x <= 3; x++) {
            for (int y = -1; y <= 3; y++) {
                CHECK.due("cell", w.at(x, y), x >= 0 && y >= 0 && x + y < 2 ? 0 : -1);
            }
        }
    }

    private static void spotsAreCells() {
        CHECK.of("1: SPOTS must be CELLS of it; Promise 3: -6: a SPOT is none");
        for (int x = -2; x <= 4; x++) {
            for (int y = -2; y <= 4; y++) {
                dueBit(TRIANGLE + "|" + x + "," + y + "=5", x >= 0 && y >= 0 && x + y < 2 ? 0 : -6);
            }
        }
        dueBit(TRIANGLE + "|0,0=5|1,0=5|1,1=5", -6);
        dueBit(TRIANGLE + "|1,1=5|0,0=5|1,0=5", -6);
        dueBit("0,0:1;1,0:1;0,1:1|0,0=5", -6);
    }

    private static void spotsOnce() {
        CHECK.of("1: SPOTS, each once; Promise 3: -6: a SPOT is none");
        dueBit(TRIANGLE + "|0,0=5|1,0=5|0,1=5", 0);
        dueBit(TRIANGLE + "|0,0=5|0,0=5", -6);
        dueBit(TRIANGLE + "|0,0=5|0,0=6", -6);
        dueBit(TRIANGLE + "|0,0=5|1,0=5|0,0=5", -6);
        dueBit(TRIANGLE + "|0,0=5|1,0=5|0,1=5|1,0=1", -6);
    }

    private static void dueBad(FrescoWall w, int thick, int straw, int plaster) {
        CHECK.due("bit(" + thick + ", " + straw + ", " + plaster + ")", w.bit(thick, straw, plaster), -2);
    }

    private static void thickness() {
        CHECK.of("1: THICKNESS 1 .. 99; Promise 3: BAD: thick");
        FrescoWall w = new FrescoWall();
        Check.feed(w, TRIANGLE);
        for (int thick : new int[] {0, 100, -1, Integer.MIN_VALUE, Integer.MAX_VALUE}) {
            dueBad(w, thick, 0, 0);
        }
        CHECK.due("least", w.bit(1, 0, 0), 0);
        CHECK.due("most", Check.bit(w, TRIANGLE, 99, 0, 0), 1);
        CHECK.due("least", w.about(0, 4), 1);
        CHECK.due("most", w.about(1, 4), 99);
    }

    private static void straw() {
        CHECK.of("1: STRAW 0 .. 3 or none (-1); Promise 3: BAD: straw");
        FrescoWall w = new FrescoWall();
        Check.feed(w, TRIANGLE);
        for (int straw : new int[] {-2, 4, Integer.MIN_VALUE, Integer.MAX_VALUE}) {
            dueBad(w, 5, straw, 0);
        }
        CHECK.due("tape", w.count(7), TRIANGLE.length());
        for (int straw = -1; straw <= 3; straw++) {
            CHECK.due("bit", straw == -1 ? w.bit(5, straw, 0) : Check.bit(w, TRIANGLE, 5, straw, 0), straw + 1);
            CHECK.due("straw", w.about(straw + 1, 5), straw);
        }
    }

    private static void plaster() {
        CHECK.of("1: PLASTER 0 .. 9; Promise 3: BAD: plaster");
        FrescoWall w = new FrescoWall();
        Check.feed(w, TRIANGLE);
        for (int plaster : new int[] {-1, 10, Integer.MIN_VALUE, Integer.MAX_VALUE}) {
            dueBad(w, 5, 0, plaster);
        }
        CHECK.due("least", w.bit(5, 0, 0), 0);
        CHECK.due("most", Check.bit(w, TRIANGLE, 5, 0, 9), 1);
        CHECK.due("least", w.about(0, 6), 0);
        CHECK.due("most", w.about(1, 6), 9);
    }

    private static void badLeavesTheTape() {
        CHECK.of("Promise 3: BAD (THE TAPE stays)");
        FrescoWall w = new FrescoWall();
        String text = "0,0:1;3,0:2;0,3:3|0,0=4";
        Check.feed(w, text);
        dueBad(w, 0, 0, 0);
        dueBad(w, 5, -2, 0);
        dueBad(w, 5, 0, 10);
        CHECK.due("tape", w.count(7), text.length());
        CHECK.due("bits", w.count(0), 0);
        CHECK.due("goes on behind what stayed", Check.feed(w, "|1,0=5"), text.length() + 6);
        CHECK.due("bit", w.bit(5, 0, 0), 0);
        CHECK.due("spots", w.about(0, 3), 2);
        CHECK.due("colour", w.corner(0, 1, 2), 2);
    }

    private static void emptyTapeBehindABit() {
        CHECK.of("Promise 3: THE TAPE, which is empty then, is a BIT");
        for (String text : new String[] {TRIANGLE, TRIANGLE + "x", "0,0:1;0,3:1;3,0:1", TRIANGLE + "|9,9=1"}) {
            FrescoWall w = new FrescoWall();
            Check.bit(w, text, 5, 0, 0);
            CHECK.due("tape behind " + text, w.count(7), 0);
            CHECK.due("an empty one is too early at its end", w.bit(5, 0, 0), -10);
            CHECK.due("the next one begins anew", Check.feed(w, TRIANGLE), TRIANGLE.length());
            CHECK.due("the next one", w.bit(5, 0, 0), text.equals(TRIANGLE) ? 1 : 0);
        }
    }

    private static void faultThenRingThenSpot() {
        CHECK.of("Promise 3: -10 less the FAULT; -5: it is no RING; -6: a SPOT is none; of several the first one told");
        dueBit("0,0:1;0,3:1;3,0:1|9,9=1x", -33);
        dueBit("0,0:1;0,3:1;3,0:1|9,9=1", -5);
        dueBit("0,0:1;3,0:1;0,3:1|9,9=1", -6);
        dueBit("0,0:1;3,0:1;0,3:1|9,9=1x", -33);
        dueBit("0,0:1;3,0:1;0,3:1|0,0=1", 0);
    }

    private static void aboutNone() {
        CHECK.of("Promise 4: -100000");
        FrescoWall w = new FrescoWall();
        Check.bit(w, TRIANGLE, 5, 0, 0);
        Check.bit(w, TRIANGLE, 5, 0, 0);
        for (int bit : new int[] {-1, 2, 30, 31, 32, Integer.MIN_VALUE, Integer.MAX_VALUE}) {
            CHECK.due("bit " + bit, w.about(bit, 0), BELOW);
        }
        for (int what : new int[] {-1, 7, Integer.MIN_VALUE, Integer.MAX_VALUE}) {
            CHECK.due("what " + what, w.about(1, what), BELOW);
        }
        CHECK.due("the first", w.about(0, 0), 3);
        CHECK.due("the last", w.about(1, 6), 0);
    }

    private static void aboutValues() {
        CHECK.of("Promise 4: what 0 EDGES, 1 twice its area, 2 CELLS, 3 SPOTS, 4 THICKNESS, 5 STRAW (-1), 6 PLASTER");
        FrescoWall w = new FrescoWall();
        Check.bit(w, EIGHT + "|0,0=1|1,0=2", 7, -1, 9);
        int[] due = {8, 6, 3, 2, 7, -1, 9};
        for (int what = 0; what <= 6; what++) {
            CHECK.due("about " + what, w.about(0, what), due[what]);
        }
    }

    private static void cornerNone() {
        CHECK.of("Promise 5: Of CORNER k: what 0 x, 1 y, 2 the COLOUR of its EDGE. -100000");
        FrescoWall w = new FrescoWall();
        Check.bit(w, "-1,-2:3;4,0:5;0,6:7", 5, 0, 0);
        Check.bit(w, EIGHT, 5, 0, 0);
        int[] first = {-1, -2, 3};
        int[] last = {0, 6, 7};
        for (int what = 0; what <= 2; what++) {
            CHECK.due("first " + what, w.corner(0, 0, what), first[what]);
            CHECK.due("last " + what, w.corner(0, 2, what), last[what]);
            CHECK.due("behind the last", w.corner(0, 3, what), BELOW);
            CHECK.due("ahead of the first", w.corner(0, -1, what), BELOW);
            CHECK.due("behind eight", w.corner(1, 8, what), BELOW);
            CHECK.due("no bit", w.corner(2, 0, what), BELOW);
            CHECK.due("no bit", w.corner(-1, 0, what), BELOW);
        }
        CHECK.due("the eighth", w.corner(1, 7, 2), 9);
        CHECK.due("what", w.corner(0, 0, 3), BELOW);
        CHECK.due("what", w.corner(0, 0, -1), BELOW);
        CHECK.due("k", w.corner(0, Integer.MAX_VALUE, 0), BELOW);
        CHECK.due("k", w.corner(0, Integer.MIN_VALUE, 0), BELOW);
    }

    private static void turnedCells() {
        CHECK.of("1: TURNED by t quarters: (x, y) goes to (-y, x) t times; CELLS by their middles");
        FrescoWall w = new FrescoWall();
        Check.bit(w, Check.box(3, 1, "0000"), 5, 0, 0);
        int[][] cells = {{0, 0, 2, 0}, {-1, 0, -1, 2}, {-3, -1, -1, -1}, {0, -3, 0, -1}};
        for (int t = 0; t < 4; t++) {
            w.put(0, t, 10, 20);
            int[] c = cells[t];
            for (int x = -4; x <= 4; x++) {
                for (int y = -4; y <= 4; y++) {
                    boolean on = x >= c[0] && y >= c[1] && x <= c[2] && y <= c[3];
                    CHECK.due("cell " + x + ", " + y + " by " + t, w.at(x + 10, y + 20), on ? 0 : -1);
                }
            }
        }
    }

    private static FrescoWall two() {
        FrescoWall w = new FrescoWall();
        Check.bit(w, Check.box(3, 1, "0000"), 5, 0, 0);
        Check.bit(w, Check.box(2, 1, "0000"), 5, 0, 1);
        return w;
    }

    private static void overlapNone() {
        CHECK.of("Promise 6: NONE");
        FrescoWall w = two();
        for (int bit : new int[] {-1, 2, 30, 31, 32, Integer.MIN_VALUE, Integer.MAX_VALUE}) {
            CHECK.due("first " + bit, w.overlap(bit, 0, 0, 0, 0), -1);
            CHECK.due("second " + bit, w.overlap(0, bit, 0, 0, 0), -1);
            CHECK.due("NONE ahead of BAD", w.overlap(bit, bit, 0, 0, 0), -1);
            CHECK.due("NONE ahead of BAD", w.overlap(1, bit, 4, 501, 0), -1);
        }
    }

    private static void overlapOfOneBit() {
        CHECK.of("Promise 6: BAD: one BIT");
        FrescoWall w = two();
        CHECK.due("0", w.overlap(0, 0, 0, 0, 0), -2);
        CHECK.due("1", w.overlap(1, 1, 0, 0, 0), -2);
        CHECK.due("two", w.overlap(1, 0, 0, 0, 0), 2);
    }

    private static void overlapTurns() {
        CHECK.of("Promise 6: BAD: t not 0 .. 3");
        FrescoWall w = two();
        int[] due = {2, 0, 0, 0};
        for (int t = 0; t <= 3; t++) {
            CHECK.due("t " + t, w.overlap(0, 1, t, 0, 0), due[t]);
        }
        for (int t : new int[] {-1, 4, Integer.MIN_VALUE, Integer.MAX_VALUE}) {
            CHECK.due("t " + t, w.overlap(0, 1, t, 0, 0), -2);
        }
    }

    private static void overlapPlaces() {
        CHECK.of("Promise 6: BAD: x, y not -500 .. 500");
        FrescoWall w = two();
        for (int far : new int[] {500, -500}) {
            CHECK.due("x " + far, w.overlap(0, 1, 0, far, 0), 0);
            CHECK.due("y " + far, w.overlap(0, 1, 0, 0, far), 0);
        }
        for (int far : new int[] {501, -501, Integer.MIN_VALUE, Integer.MAX_VALUE}) {
            CHECK.due("x " + far, w.overlap(0, 1, 0, far, 0), -2);
            CHECK.due("y " + far, w.overlap(0, 1, 0, 0, far), -2);
        }
    }

    private static void overlapCounts() {
        CHECK.of("1: OVERLAP of two BITS as they are PLACED: CELLS that they have in common");
        FrescoWall w = two();
        int[] due = {0, 1, 2, 2, 1, 0};
        for (int x = -2; x <= 3; x++) {
            CHECK.due("x " + x, w.overlap(0, 1, 0, x, 0), due[x + 2]);
            CHECK.due("above", w.overlap(0, 1, 0, x, 1), 0);
            CHECK.due("below", w.overlap(0, 1, 0, x, -1), 0);
            // half round its cells are those to the left below
            CHECK.due("turned, x " + x, w.overlap(0, 1, 2, x + 2, 1), due[x + 2]);
        }
        FrescoWall v = new FrescoWall();
        String all = "-20,-20:1;20,-20:2;20,20:3;-20,20:4";
        Check.bit(v, all, 5, 0, 0);
        Check.bit(v, all, 5, 0, 0);
        for (int t = 0; t < 4; t++) {
            CHECK.due("all", v.overlap(0, 1, t, 0, 0), 1600);
            CHECK.due("a column", v.overlap(0, 1, t, 39, 0), 40);
            CHECK.due("a column", v.overlap(0, 1, t, -39, 0), 40);
            CHECK.due("a row", v.overlap(0, 1, t, 0, 39), 40);
            CHECK.due("a row", v.overlap(0, 1, t, 0, -39), 40);
            CHECK.due("a corner", v.overlap(0, 1, t, 39, -39), 1);
            CHECK.due("beside", v.overlap(0, 1, t, 40, 0), 0);
            CHECK.due("beside", v.overlap(0, 1, t, -40, 0), 0);
            CHECK.due("beside", v.overlap(0, 1, t, 0, 40), 0);
            CHECK.due("beside", v.overlap(0, 1, t, 0, -40), 0);
        }
    }

    private static void overlapFarAway() {
        CHECK.of("1: OVERLAP: CELLS that they have in common; Promise 6: x, y -500 .. 500");
        String all = "-20,-20:1;20,-20:2;20,20:3;-20,20:4";
        for (int from = -500; from <= 500; from += 250) {
            FrescoWall w = new FrescoWall();
            Check.bit(w, all, 5, 0, 0);
            Check.bit(w, all, 5, 0, 0);
            for (int far = from; far < from + 250 && far <= 500; far++) {
                int due = 40 * Math.max(0, 40 - Math.abs(far));
                CHECK.due("x " + far, w.overlap(0, 1, 0, far, 0), due);
                CHECK.due("y " + far, w.overlap(0, 1, 0, 0, far), due);
            }
        }
    }

    private static void fiveHundredAndTwelveCalls() {
        CHECK.of("An object is used for at most 512 calls after it has been made");
        FrescoWall w = new FrescoWall();
        int made = Check.feed(w, TRIANGLE) / 8 + 1;
        CHECK.due("bit", w.bit(5, 0, 0), 0);
        for (int call = made + 2; call < 512; call++) {
            CHECK.due("call " + call, w.word(0, call & 3, call, -call % 400), call <= 500 ? 1 : -2);
        }
        CHECK.due("the last call", w.placed(0, 1), 500);
    }

    private static void tolerances() {
        CHECK.of("1: TOLERANCE 0 .. 30 (0 at first); Promise 7: what it was. BAD");
        FrescoWall w = new FrescoWall();
        CHECK.due("0 at first", w.tolerance(30), 0);
        for (int n : new int[] {-1, 31, Integer.MIN_VALUE, Integer.MAX_VALUE}) {
            CHECK.due("tolerance " + n, w.tolerance(n), -2);
        }
        CHECK.due("as it was", w.tolerance(0), 30);
        CHECK.due("as it was", w.tolerance(1), 0);
        CHECK.due("as it was", w.tolerance(1), 1);
    }
}
