/** Parts 5 and 6 of the document and promises 27 to 31, sentence by sentence: just inside each bound and just outside. */
public final class BoundPhotographTest {
    private static final Check CHECK = new Check("BoundPhotographTest");
    private static final int BELOW = -100000;
    private static final int NO_PLACING = -100001;
    private static final int[] NO_BITS = {-1, 3, 29, 30, 31, 32, Integer.MIN_VALUE, Integer.MAX_VALUE};

    public static void main(String[] args) {
        digitsAndPoints();
        sixteenWide();
        sixteenHigh();
        tooLongOrTooShort();
        firstWrongByte();
        endsTooEarly();
        emptyTapeBehindAPhotograph();
        coloursCountedOnce();
        photographBad();
        badLeavesTheTape();
        inPlaceOfOne();
        upperRowFirst();
        atMostDoubtAway();
        aroundTheGreatest();
        unknownAgreesWithNone();
        onItOrNot();
        turnedSpots();
        agreeRefused();
        everySpotOnIt();
        oneToFiveSpots();
        eachTurnOnIt();
        mostThatAgree();
        asFarAsThePhotograph();
        leastTurn();
        leastY();
        leastX();
        rivals();
        bestNone();
        bestNoPlacing();
        setsOfTwoOrThree();
        aBitOfNone();
        leastIsHere();
        hangTogether();
        oneHangsAlone();
        hangByTheThird();
        overlapByTolerance();
        worthOfAllPairs();
        mostWorth();
        leastTurnOfTheSecond();
        leastXOfTheSecond();
        leastYOfTheSecond();
        thenTheThird();
        ofTheThirdItsTurnThenX();
        latestThatToldAWorth();
        arrangedNone();
        CHECK.end();
    }

    private static void dueShown(String text, int answer) {
        FrescoWall w = new FrescoWall();
        CHECK.due("photograph of " + text, Check.photograph(w, text, 0, 0, 0), answer);
        CHECK.due("tape", w.count(7), 0);
        Check.bit(w, Check.box(1, 1, "0000") + "|0,0=1", 5, -1, 0);
        CHECK.due("whether there is one", w.agree(0, 0, 0, 0) == -3 ? 1 : 0, answer <= -10 ? 1 : 0);
    }

    private static void dueFault(String text, int place) {
        dueShown(text, -10 - place);
    }

    private static void digitsAndPoints() {
        CHECK.of("5: rows of digits (COLOURS) and points (unknown)");
        for (int sign = 0; sign <= 255; sign++) {
            boolean digit = sign >= '0' && sign <= '9';
            dueShown("." + (char) sign, digit ? 1 : sign == '.' ? 0 : -11 - (sign == '/' ? 1 : 0));
        }
    }

    private static void sixteenWide() {
        CHECK.of("5: all of one length, 1 .. 16 each way");
        for (int n = 1; n <= 16; n++) {
            dueShown("7".repeat(n), 1);
            dueShown("7".repeat(n) + "/" + ".".repeat(n), 1);
        }
        dueFault("7".repeat(17), 16);
        dueFault(".".repeat(17) + "/" + ".".repeat(17), 16);
        dueFault("7".repeat(40), 16);
        dueFault("", 0);
        dueFault("/7", 0);
        dueShown(".".repeat(16) + ("/" + "7".repeat(16)).repeat(13), 1);
    }

    private static void sixteenHigh() {
        CHECK.of("5: 1 .. 16 each way (rows)");
        for (int n = 1; n <= 16; n++) {
            dueShown("7" + "/7".repeat(n - 1), 1);
        }
        dueFault("7" + "/7".repeat(15) + "/", 31);
        dueFault("7" + "/7".repeat(16), 31);
        dueShown("7".repeat(14) + ("/" + "8".repeat(14)).repeat(15), 2);
        dueFault("7".repeat(14) + ("/" + "8".repeat(14)).repeat(15) + "/", 239);
    }

    private static void tooLongOrTooShort() {
        CHECK.of("5: FAULT (a row that is too long or too short: the byte with which it is so)");
        dueShown("012/345/678", 9);
        dueFault("012/3456/678", 7);
        dueFault("012/34/678", 6);
        dueFault("012/345/6789", 11);
        dueFault("012/345/67/", 10);
        dueFault("012//345", 4);
        dueFault("012/345//", 8);
        dueFault("0/11", 3);
        dueFault("00/1/22", 4);
        dueFault("0//1", 2);
    }

    private static void firstWrongByte() {
        CHECK.of("5: FAULT likewise: the first byte with which it can't go on");
        String text = "012/3.5/678";
        for (int k = 0; k < text.length(); k++) {
            dueFault(text.substring(0, k) + "x" + text.substring(k + 1), k);
            dueFault(text.substring(0, k) + " " + text.substring(k), k);
            dueFault(text.substring(0, k) + (char) 176 + text.substring(k), k);
        }
        dueFault(text + "x", 11);
    }

    private static void endsTooEarly() {
        CHECK.of("5: FAULT likewise: the size of THE TAPE, if it ends too early");
        String text = "012/3.5/678";
        int[] colours = {-10, 1, 2, 3, -14, -15, -16, 5, -18, -19, -20, 8};
        for (int k = 0; k <= text.length(); k++) {
            dueShown(text.substring(0, k), colours[k]);
        }
    }

    private static void emptyTapeBehindAPhotograph() {
        CHECK.of("Promise 27: THE TAPE, which is empty then, is THE PHOTOGRAPH");
        for (String text : new String[] {"01/23", "01/2", "x"}) {
            FrescoWall w = new FrescoWall();
            Check.photograph(w, text, 0, 0, 0);
            CHECK.due("tape behind " + text, w.count(7), 0);
            CHECK.due("the next one begins anew", Check.feed(w, "44"), 2);
            CHECK.due("the next one", w.photograph(0, 0, 0), 1);
        }
    }

    private static void coloursCountedOnce() {
        CHECK.of("Promise 27: how many COLOURS it shows (each counted once, in however many CELLS it is)");
        StringBuilder text = new StringBuilder(".");
        for (int n = 0; n <= 9; n++) {
            dueShown(text.toString(), n);
            text.append(n);
        }
        dueShown(text.toString(), 10);
        dueShown("0000/0000", 1);
        dueShown("0909/9090", 2);
        dueShown("..../....", 0);
        dueShown("0123456789/9876543210", 10);
    }

    private static void photographBad() {
        CHECK.of("5: its lower left one is (x, y) (-500 .. 500). DOUBT 0 .. 3; Promise 27: BAD: x, y, doubt");
        FrescoWall w = new FrescoWall();
        Check.bit(w, Check.box(1, 1, "0000") + "|0,0=1", 5, -1, 0);
        for (int far : new int[] {500, -500}) {
            CHECK.due("x " + far, Check.photograph(w, "1", far, 7, 0), 1);
            CHECK.due("there", w.agree(0, 0, far, 7), 1);
            CHECK.due("y " + far, Check.photograph(w, "1", 7, far, 0), 1);
            CHECK.due("there", w.agree(0, 0, 7, far), 1);
        }
        Check.feed(w, "1");
        for (int far : new int[] {501, -501, Integer.MIN_VALUE, Integer.MAX_VALUE}) {
            CHECK.due("x " + far, w.photograph(far, 0, 0), -2);
            CHECK.due("y " + far, w.photograph(0, far, 0), -2);
        }
        for (int doubt : new int[] {-1, 4, Integer.MIN_VALUE, Integer.MAX_VALUE}) {
            CHECK.due("doubt " + doubt, w.photograph(0, 0, doubt), -2);
        }
        CHECK.due("the old one is there", w.agree(0, 0, 7, -500), 1);
        for (int doubt = 0; doubt <= 3; doubt++) {
            CHECK.due("doubt " + doubt, Check.photograph(w, doubt == 0 ? "" : "1", 0, 0, doubt), 1);
        }
    }

    private static void badLeavesTheTape() {
        CHECK.of("Promise 27: BAD (THE TAPE stays)");
        FrescoWall w = new FrescoWall();
        Check.feed(w, "01/2");
        CHECK.due("x", w.photograph(501, 0, 0), -2);
        CHECK.due("y", w.photograph(0, -501, 0), -2);
        CHECK.due("doubt", w.photograph(0, 0, 4), -2);
        CHECK.due("tape", w.count(7), 4);
        CHECK.due("goes on behind what stayed", Check.feed(w, "3"), 5);
        CHECK.due("photograph", w.photograph(0, 0, 0), 4);
    }

    private static void inPlaceOfOne() {
        CHECK.of("Promise 27: THE PHOTOGRAPH (in place of one)");
        FrescoWall w = new FrescoWall();
        Check.bit(w, Check.box(1, 1, "0000") + "|0,0=1", 5, -1, 0);
        Check.photograph(w, "1111/1111/1111", 10, 20, 3);
        CHECK.due("the first one", w.agree(0, 0, 13, 22), 1);
        CHECK.due("by its doubt", w.agree(0, 0, 16, 25), 1);
        Check.photograph(w, "2/1", 10, 20, 0);
        CHECK.due("its lower row", w.agree(0, 0, 10, 20), 1);
        for (int x = 8; x <= 17; x++) {
            for (int y = 18; y <= 26; y++) {
                CHECK.due("nothing else is left", w.agree(0, 0, x, y), x == 10 && y == 20 ? 1 : 0);
            }
        }
        CHECK.due("the best is in it", w.best(0, 4), 3);
        Check.photograph(w, "1", 40, 40, 0);
        CHECK.due("elsewhere", w.agree(0, 0, 40, 40), 1);
        CHECK.due("no longer there", w.agree(0, 0, 10, 20), 0);
        // of the greatest one by the greatest doubt nothing is left
        String row = "1".repeat(13);
        Check.photograph(w, row + ("/" + row).repeat(15), 40, 40, 3);
        int[][] rim = {{37, 37}, {55, 37}, {37, 58}, {55, 58}, {46, 37}, {46, 58}, {37, 48}, {55, 48}, {46, 48}};
        for (int[] cell : rim) {
            CHECK.due("there", w.agree(0, 0, cell[0], cell[1]), 1);
        }
        Check.photograph(w, "2", 40, 40, 3);
        for (int[] cell : rim) {
            CHECK.due("left", w.agree(0, 0, cell[0], cell[1]), 0);
        }
    }

    private static void upperRowFirst() {
        CHECK.of("5: the first row is the upper one; its lower left one is (x, y)");
        FrescoWall w = new FrescoWall();
        for (int colour = 0; colour < 6; colour++) {
            Check.bit(w, Check.box(1, 1, "0000") + "|0,0=" + colour, 5, -1, 0);
        }
        Check.photograph(w, "01/23/45", -3, 8, 0);
        for (int colour = 0; colour < 6; colour++) {
            for (int x = -4; x <= -1; x++) {
                for (int y = 7; y <= 11; y++) {
                    boolean so = x == -3 + colour % 2 && y == 10 - colour / 2;
                    CHECK.due("colour " + colour + " at " + x + ", " + y, w.agree(colour, 0, x, y), so ? 1 : 0);
                }
            }
        }
    }

    private static void atMostDoubtAway() {
        CHECK.of("5: A SPOT AGREES if some CELL of the PHOTOGRAPH at most DOUBT away (the greater of both ways) has its COLOUR");
        for (int doubt = 0; doubt <= 3; doubt++) {
            FrescoWall w = new FrescoWall();
            Check.bit(w, Check.box(1, 1, "0000") + "|0,0=1", 5, -1, 0);
            Check.photograph(w, "../1./..", 100, -100, doubt);
            for (int x = -5; x <= 5; x++) {
                for (int y = -5; y <= 5; y++) {
                    boolean near = Math.max(Math.abs(x), Math.abs(y)) <= doubt;
                    CHECK.due(x + ", " + y + " by " + doubt, w.agree(0, 0, 100 + x, -99 + y), near ? 1 : 0);
                }
            }
        }
        // at the rim of the greatest ones, all ways
        FrescoWall w = new FrescoWall();
        Check.bit(w, Check.box(1, 1, "0000") + "|0,0=1", 5, -1, 0);
        Check.photograph(w, "1..............1/................/................/1..............1", 0, 0, 3);
        for (int x = -5; x <= 20; x++) {
            boolean near = x >= -3 && x <= 3 || x >= 12 && x <= 18;
            CHECK.due("above, " + x, w.agree(0, 0, x, 6), near ? 1 : 0);
            CHECK.due("too far above, " + x, w.agree(0, 0, x, 7), 0);
            CHECK.due("below, " + x, w.agree(0, 0, x, -3), near ? 1 : 0);
            CHECK.due("too far below, " + x, w.agree(0, 0, x, -4), 0);
        }
    }

    private static void aroundTheGreatest() {
        CHECK.of("5: 1 .. 16 each way; at most DOUBT away: as far out as there is, and beyond");
        int[] ways = {-25, -6, -5, -4, -3, -2, 0, 7, 13, 15, 16, 17, 18, 19, 20, 21, 22, 23, 25, 44};
        for (int wide = 14; wide <= 16; wide += 2) {
            int high = 30 - wide;
            String row = "1".repeat(wide);
            for (int x : ways) {
                FrescoWall w = new FrescoWall();
                Check.bit(w, Check.box(1, 1, "0000") + "|0,0=1", 5, -1, 0);
                CHECK.due("photograph", Check.photograph(w, row + ("/" + row).repeat(high - 1), 0, 0, 3), 1);
                for (int y : ways) {
                    for (int times : new int[] {1, 11}) {
                        boolean near = x * times >= -3 && x * times <= wide + 2 && y * times >= -3 && y * times <= high + 2;
                        CHECK.due("at " + x * times + ", " + y * times, w.agree(0, 0, x * times, y * times), near ? 1 : 0);
                    }
                }
            }
        }
    }

    private static void unknownAgreesWithNone() {
        CHECK.of("5: points (unknown); a SPOT AGREES if some CELL has its COLOUR");
        FrescoWall w = new FrescoWall();
        Check.bit(w, Check.box(2, 1, "0000") + "|0,0=0|1,0=9", 5, -1, 0);
        Check.photograph(w, "..", 0, 0, 3);
        CHECK.due("unknown", w.agree(0, 0, 0, 0), 0);
        CHECK.due("but it lies on it", w.best(0, 0), 0);
        Check.photograph(w, ".9", 0, 0, 0);
        CHECK.due("one of them", w.agree(0, 0, 0, 0), 1);
        Check.photograph(w, "09", 0, 0, 0);
        CHECK.due("both", w.agree(0, 0, 0, 0), 2);
        Check.photograph(w, "18", 0, 0, 0);
        CHECK.due("others", w.agree(0, 0, 0, 0), 0);
        Check.photograph(w, "09", 0, 0, 1);
        CHECK.due("each by a cell beside it", w.agree(0, 0, 1, 0), 2);
        CHECK.due("too far", w.agree(0, 0, 2, 0), 0);
    }

    private static void onItOrNot() {
        CHECK.of("Promise 28: How many SPOTS of a BIT AGREE, PLACED by (t, x, y) (all that lie on it or not)");
        FrescoWall w = new FrescoWall();
        Check.bit(w, Check.box(5, 1, "0000") + "|0,0=1|1,0=1|2,0=1|3,0=1|4,0=1", 5, -1, 0);
        Check.photograph(w, "11111", 10, 10, 0);
        for (int x = -6; x <= 6; x++) {
            CHECK.due("by " + x, w.agree(0, 0, 10 + x, 10), Math.max(0, 5 - Math.abs(x)));
        }
        CHECK.due("none on it", w.agree(0, 0, 10, 11), 0);
        Check.photograph(w, "11111", 10, 10, 1);
        CHECK.due("none on it, all agree", w.agree(0, 0, 10, 11), 5);
        CHECK.due("far", w.agree(0, 0, -500, 500), 0);
        CHECK.due("no SPOTS", Check.bit(w, Check.box(1, 1, "0000"), 5, -1, 0), 1);
        CHECK.due("no SPOTS", w.agree(1, 0, 10, 10), 0);
    }

    private static void turnedSpots() {
        CHECK.of("1: TURNED: CELLS by their middles; 5: A SPOT of a BIT that is PLACED");
        FrescoWall w = new FrescoWall();
        Check.bit(w, Check.box(4, 2, "0000") + "|3,1=1", 5, -1, 0);
        Check.photograph(w, "1", 0, 0, 0);
        int[][] at = {{-3, -1}, {2, -3}, {4, 2}, {-1, 4}};
        for (int t = 0; t < 4; t++) {
            for (int x = -6; x <= 6; x++) {
                for (int y = -2; y <= 2; y++) {
                    int nearX = at[t][0] + x;
                    int nearY = at[t][1] + y;
                    CHECK.due("t " + t, w.agree(0, t, nearX, nearY), x == 0 && y == 0 ? 1 : 0);
                }
            }
        }
    }

    private static void agreeRefused() {
        CHECK.of("Promise 28: NONE; BAD; STATE: no PHOTOGRAPH");
        FrescoWall w = new FrescoWall();
        for (int k = 0; k < 3; k++) {
            Check.bit(w, Check.box(1, 1, "0000") + "|0,0=1", 5, -1, 0);
        }
        for (int round = 0; round < 2; round++) {
            CHECK.due("agree", w.agree(2, 0, 0, 0), round == 0 ? -3 : 1);
            for (int bit : NO_BITS) {
                CHECK.due("bit " + bit, w.agree(bit, 0, 0, 0), -1);
                CHECK.due("NONE ahead of BAD", w.agree(bit, 4, 0, 0), -1);
            }
            for (int t : new int[] {-1, 4, Integer.MIN_VALUE, Integer.MAX_VALUE}) {
                CHECK.due("t " + t, w.agree(0, t, 0, 0), -2);
            }
            for (int far : new int[] {501, -501, Integer.MIN_VALUE, Integer.MAX_VALUE}) {
                CHECK.due("x " + far, w.agree(0, 0, far, 0), -2);
                CHECK.due("y " + far, w.agree(0, 0, 0, far), -2);
            }
            for (int far : new int[] {500, -500}) {
                CHECK.due("x " + far, w.agree(0, 3, far, 0), round == 0 ? -3 : 0);
                CHECK.due("y " + far, w.agree(0, 0, 0, far), round == 0 ? -3 : 0);
            }
            Check.photograph(w, "1", 0, 0, 0);
        }
    }

    private static void dueBest(FrescoWall w, int bit, int agree, int t, int x, int y, int rivals) {
        int[] due = {agree, t, x, y, rivals};
        for (int what = 0; what <= 4; what++) {
            CHECK.due("best(" + bit + ", " + what + ")", w.best(bit, what), due[what]);
        }
    }

    private static void everySpotOnIt() {
        CHECK.of("5: BEST PLACING of a BIT with SPOTS: of all in which every SPOT lies on the PHOTOGRAPH");
        FrescoWall w = new FrescoWall();
        Check.bit(w, Check.box(5, 1, "0000") + "|0,0=1|4,0=2", 5, -1, 0);
        Check.photograph(w, "...1", 0, 0, 3);
        CHECK.due("too narrow by one", w.best(0, 0), NO_PLACING);
        Check.photograph(w, "....1", 0, 0, 0);
        dueBest(w, 0, 1, 2, 5, 1, 0);
        Check.photograph(w, "...1/..../..../....", 0, 0, 0);
        CHECK.due("too low by one", w.best(0, 0), NO_PLACING);
        Check.photograph(w, "1/././././.", 0, 0, 0);
        // with 1 on the uppermost: downwards, three quarters
        dueBest(w, 0, 1, 3, 0, 6, 0);
        // one might agree if the other one lay beside it: it doesn't count
        Check.photograph(w, "2....", 0, 0, 0);
        dueBest(w, 0, 1, 2, 5, 1, 0);
        Check.photograph(w, "..2..", 0, 0, 0);
        dueBest(w, 0, 0, 0, 0, 0, 1);
    }

    private static void oneToFiveSpots() {
        CHECK.of("5: BEST PLACING of a BIT with SPOTS (1 to 5); every SPOT lies on the PHOTOGRAPH, whichever is the outermost");
        // five SPOTS in a hook; the first ones of them are other bits', in any order
        int[][] hook = {{0, 0}, {1, 0}, {2, 0}, {2, 1}, {2, 2}};
        int[][] orders = {{0, 1, 2, 3, 4}, {4, 3, 2, 1, 0}, {2, 0, 4, 1, 3}, {3, 4, 0, 2, 1}, {1, 2, 3, 4, 0}};
        for (int[] order : orders) {
            FrescoWall w = new FrescoWall();
            StringBuilder text = new StringBuilder("0,0:0;3,0:0;3,3:0;2,3:0;2,1:0;0,1:0");
            for (int k = 4; k >= 0; k--) {
                text.append('|').append(hook[order[k]][0]).append(',').append(hook[order[k]][1]).append("=7");
            }
            // the one of five goes first, so that those of fewer come behind more
            CHECK.due("five", Check.bit(w, text.toString(), 5, -1, 0), 0);
            for (int n = 1; n <= 4; n++) {
                StringBuilder fewer = new StringBuilder("0,0:0;3,0:0;3,3:0;2,3:0;2,1:0;0,1:0");
                for (int k = 0; k < n; k++) {
                    fewer.append('|').append(hook[order[k]][0]).append(',').append(hook[order[k]][1]).append("=7");
                }
                CHECK.due("fewer", Check.bit(w, fewer.toString(), 5, -1, 0), n);
            }
            Check.photograph(w, "...../...../...../.....", 100, 200, 0);
            for (int bit = 0; bit <= 4; bit++) {
                dueAllOnIt(w, hook, order, bit == 0 ? 5 : bit, bit);
            }
        }
    }

    /** None agrees, so the first of all placings is the best one and the others are RIVALS. */
    private static void dueAllOnIt(FrescoWall w, int[][] hook, int[] order, int n, int bit) {
        int lowX = 9;
        int lowY = 9;
        int highX = -9;
        int highY = -9;
        for (int k = 0; k < n; k++) {
            lowX = Math.min(lowX, hook[order[k]][0]);
            lowY = Math.min(lowY, hook[order[k]][1]);
            highX = Math.max(highX, hook[order[k]][0]);
            highY = Math.max(highY, hook[order[k]][1]);
        }
        int wide = highX - lowX;
        int high = highY - lowY;
        dueBest(w, bit, 0, 0, 100 - lowX, 200 - lowY, 2 * (5 - wide) * (4 - high) + 2 * (5 - high) * (4 - wide) - 1);
    }

    private static void eachTurnOnIt() {
        CHECK.of("5: BEST PLACING: every SPOT lies on the PHOTOGRAPH (in each of its turns)");
        // two SPOTS one above the other, far from the corner, the upper one first
        String[] shows = {"1/2", "21", "2/1", "12"};
        int[][] at = {{10 - 3, 20 - 1}, {10 + 3, 20 - 3}, {10 + 4, 20 + 3}, {10 - 1, 20 + 4}};
        for (String spots : new String[] {"|3,2=1|3,1=2", "|3,1=2|3,2=1"}) {
            for (int n = 0; n < 4; n++) {
                FrescoWall w = new FrescoWall();
                Check.bit(w, Check.box(5, 4, "0000") + spots, 5, -1, 0);
                // turned by a quarter the upper one is at the left
                int t = new int[] {0, 3, 2, 1}[n];
                Check.photograph(w, shows[n], 10, 20, 0);
                dueBest(w, 0, 2, t, at[t][0], at[t][1], 0);
            }
        }
    }

    private static void mostThatAgree() {
        CHECK.of("5: BEST PLACING: that with the most that AGREE; Promise 29: what 0 how many AGREE, 1 t, 2 x, 3 y");
        FrescoWall w = new FrescoWall();
        Check.bit(w, Check.box(3, 1, "0000") + "|0,0=1|1,0=2|2,0=3", 5, -1, 0);
        Check.photograph(w, "121......./...123..../....32...3", 10, 20, 0);
        dueBest(w, 0, 3, 0, 13, 21, 0);
        Check.photograph(w, "121......./..321...../....32...3", 10, 20, 0);
        dueBest(w, 0, 3, 2, 15, 22, 0);
        Check.photograph(w, "...3/...2/...1", -5, -6, 0);
        dueBest(w, 0, 3, 1, -1, -6, 0);
    }

    private static void asFarAsThePhotograph() {
        CHECK.of("5: BEST PLACING: of all in which every SPOT lies on the PHOTOGRAPH (however far it is)");
        for (int sign = -1; sign <= 1; sign += 2) {
            FrescoWall w = new FrescoWall();
            Check.bit(w, "-20,-20:0;20,-20:0;20,20:0;-20,20:0|-20,-20=1|-20,-19=2", 5, -1, 0);
            Check.photograph(w, "2/1", 500 * sign, 500 * sign, 0);
            dueBest(w, 0, 2, 0, 500 * sign + 20, 500 * sign + 20, 0);
            Check.photograph(w, "1/2", 500 * sign, -500 * sign, 0);
            dueBest(w, 0, 2, 2, 500 * sign - 19, -500 * sign - 18, 0);
        }
    }

    private static void leastTurn() {
        CHECK.of("5: then the least t");
        FrescoWall w = new FrescoWall();
        Check.bit(w, Check.box(2, 1, "0000") + "|0,0=1|1,0=2", 5, -1, 0);
        // upright ones lie lower and farther left
        Check.photograph(w, ".12/.../2../1..", 0, 0, 0);
        dueBest(w, 0, 2, 0, 1, 3, 1);
        Check.photograph(w, "..1/..2/.../21.", 0, 0, 0);
        dueBest(w, 0, 2, 2, 2, 1, 1);
        Check.photograph(w, "2.1/1.2/.../...", 0, 0, 0);
        dueBest(w, 0, 2, 1, 1, 2, 1);
    }

    private static void leastY() {
        CHECK.of("5: then the least y");
        FrescoWall w = new FrescoWall();
        Check.bit(w, Check.box(2, 1, "0000") + "|0,0=1|1,0=2", 5, -1, 0);
        Check.photograph(w, "12..../....../..12../....../...12.", 0, 0, 0);
        dueBest(w, 0, 2, 0, 3, 0, 2);
    }

    private static void leastX() {
        CHECK.of("5: then the least x");
        FrescoWall w = new FrescoWall();
        Check.bit(w, Check.box(2, 1, "0000") + "|0,0=1|1,0=2", 5, -1, 0);
        Check.photograph(w, "12......./........./.12.12.12/.........", 0, 0, 0);
        dueBest(w, 0, 2, 0, 1, 1, 3);
    }

    private static void rivals() {
        CHECK.of("5: RIVALS: how many others have as many; Promise 29: 4 RIVALS");
        FrescoWall w = new FrescoWall();
        Check.bit(w, Check.box(2, 1, "0000") + "|0,0=1|1,0=2", 5, -1, 0);
        Check.photograph(w, "12", 0, 0, 0);
        CHECK.due("none", w.best(0, 4), 0);
        Check.photograph(w, "121", 0, 0, 0);
        CHECK.due("the other way round", w.best(0, 4), 1);
        Check.photograph(w, "12/21", 0, 0, 0);
        CHECK.due("all round", w.best(0, 4), 3);
        Check.photograph(w, "...", 0, 0, 0);
        // none agrees: two ways, two places
        dueBest(w, 0, 0, 0, 0, 0, 3);
        Check.photograph(w, "1..", 0, 0, 0);
        // one agrees: with the 1 on it, the 2 right of it
        dueBest(w, 0, 1, 0, 0, 0, 0);
        Check.photograph(w, ".1.", 0, 0, 0);
        dueBest(w, 0, 1, 0, 1, 0, 1);
    }

    private static void bestNone() {
        CHECK.of("Promise 29: -100000: NONE");
        FrescoWall w = new FrescoWall();
        Check.bit(w, Check.box(1, 1, "0000") + "|0,0=1", 5, -1, 0);
        Check.bit(w, Check.box(1, 1, "0000"), 5, -1, 0);
        Check.bit(w, Check.box(1, 1, "0000") + "|0,0=1", 5, -1, 0);
        for (int round = 0; round < 2; round++) {
            for (int bit : NO_BITS) {
                CHECK.due("bit " + bit, w.best(bit, 0), BELOW);
            }
            for (int what : new int[] {-1, 5, Integer.MIN_VALUE, Integer.MAX_VALUE}) {
                CHECK.due("what " + what, w.best(0, what), BELOW);
                CHECK.due("NONE ahead of no SPOTS", w.best(1, what), BELOW);
            }
            CHECK.due("the last", w.best(2, 4), round == 0 ? NO_PLACING : 3);
            Check.photograph(w, "1", 0, 0, 0);
        }
    }

    private static void bestNoPlacing() {
        CHECK.of("Promise 29: -100001: no PHOTOGRAPH, no SPOTS, or no placing");
        FrescoWall w = new FrescoWall();
        Check.bit(w, Check.box(2, 1, "0000") + "|0,0=1|1,0=1", 5, -1, 0);
        Check.bit(w, Check.box(1, 1, "0000"), 5, -1, 0);
        for (int what = 0; what <= 4; what++) {
            CHECK.due("no PHOTOGRAPH", w.best(0, what), NO_PLACING);
            CHECK.due("no PHOTOGRAPH, no SPOTS", w.best(1, what), NO_PLACING);
        }
        Check.photograph(w, "1", 0, 0, 3);
        for (int what = 0; what <= 4; what++) {
            CHECK.due("no placing", w.best(0, what), NO_PLACING);
            CHECK.due("no SPOTS", w.best(1, what), NO_PLACING);
        }
        Check.photograph(w, "1/1", 0, 0, 0);
        dueBest(w, 0, 2, 1, 1, 0, 1);
    }

    private static void setsOfTwoOrThree() {
        CHECK.of("6: a set of BITS (2 or 3); Promise 30: BAD: not 2 or 3");
        FrescoWall w = Check.squares(5);
        int[] worth = {0, 0, 27, 54, 0, 0};
        for (int set = 0; set < 32; set++) {
            int size = Integer.bitCount(set);
            boolean good = size == 2 || size == 3;
            CHECK.due("arrange(" + set + ")", w.arrange(set), good ? worth[size] : -2);
        }
    }

    private static void aBitOfNone() {
        CHECK.of("Promise 30: BAD: a bit of none");
        FrescoWall w = Check.squares(3);
        for (int none = 3; none < 32; none++) {
            CHECK.due("with " + none, w.arrange(1 | 1 << none), -2);
            CHECK.due("with " + none, w.arrange(3 | 1 << none), -2);
        }
        CHECK.due("all", w.arrange(-1), -2);
        CHECK.due("none told", w.arranged(0, 0), BELOW);
        CHECK.due("the last one", w.arrange(1 | 1 << 2), 27);
        FrescoWall v = Check.squares(30);
        CHECK.due("the thirtieth", v.arrange(1 << 29 | 1 << 28 | 1), 54);
        CHECK.due("the thirtieth", v.arranged(29, 0), 0);
        CHECK.due("none", v.arrange(1 << 30 | 1 << 28), -2);
        CHECK.due("none", v.arrange(Integer.MIN_VALUE | 3), -2);
    }

    private static void dueArranged(FrescoWall w, int bit, int t, int x, int y) {
        CHECK.due("t of " + bit, w.arranged(bit, 0), t);
        CHECK.due("x of " + bit, w.arranged(bit, 1), x);
        CHECK.due("y of " + bit, w.arranged(bit, 2), y);
    }

    private static void leastIsHere() {
        CHECK.of("6: the least one PLACED by (0, 0, 0)");
        FrescoWall w = new FrescoWall();
        for (int k = 0; k < 4; k++) {
            Check.bit(w, "5,5:0;6,5:0;6,6:0;5,6:0", 5, -1, 0);
        }
        w.word(1, 1, 100, 100);
        CHECK.due("arrange", w.arrange(2 | 8), 27);
        dueArranged(w, 1, 0, 0, 0);
        dueArranged(w, 3, 0, -1, 0);
        CHECK.due("not in it", w.arranged(0, 0), BELOW);
        CHECK.due("not in it", w.arranged(2, 0), BELOW);
        CHECK.due("three", w.arrange(4 | 8 | 1), 54);
        dueArranged(w, 0, 0, 0, 0);
    }

    private static void hangTogether() {
        CHECK.of("6: all hang together by FITS; Promise 30: -5: there is none");
        FrescoWall w = new FrescoWall();
        // 0 and 1 fit, 2 and 3 fit, no other ones
        Check.bit(w, "0,0:0;3,0:0;0,4:0", 5, -1, 0);
        Check.bit(w, Check.box(3, 6, "0000"), 5, -1, 0);
        Check.bit(w, "0,0:0;1,0:0;0,2:0", 5, -1, 0);
        Check.bit(w, Check.box(1, 7, "0000"), 5, -1, 0);
        CHECK.due("they do", w.arrange(3), 27);
        CHECK.due("they do", w.arrange(12), 27);
        CHECK.due("two that don't", w.arrange(5), -5);
        CHECK.due("two of three do", w.arrange(7), -5);
        CHECK.due("two of three do", w.arrange(13), -5);
        CHECK.due("two of three do", w.arrange(11), -5);
        CHECK.due("two of three do", w.arrange(14), -5);
        CHECK.due("what was told stays", w.arranged(2, 0), 0);
        CHECK.due("another PLASTER", Check.bit(w, Check.box(3, 6, "0000"), 5, -1, 1), 4);
        CHECK.due("another PLASTER", w.arrange(1 | 16), -5);
    }

    private static void oneHangsAlone() {
        CHECK.of("6: all hang together by FITS; Promise 30: -5: there is none (one of three hangs on none)");
        for (int alone = 0; alone < 3; alone++) {
            FrescoWall w = new FrescoWall();
            for (int k = 0; k < 3; k++) {
                Check.bit(w, k == alone ? "0,0:0;1,0:0;0,7:0" : Check.box(3, 4, "0000"), 5, -1, 0);
            }
            CHECK.due("bit " + alone + " is alone", w.arrange(7), -5);
            CHECK.due("the two others", w.arrange(7 & ~(1 << alone)), 27);
            CHECK.due("bit " + alone + " is alone still", w.arrange(7), -5);
            for (int k = 0; k < 3; k++) {
                CHECK.due("as the two were told", w.arranged(k, 0), k == alone ? BELOW : 0);
            }
        }
    }

    private static void hangByTheThird() {
        CHECK.of("6: each other one such that all hang together by FITS (by way of any)");
        for (int middle = 0; middle < 3; middle++) {
            FrescoWall w = new FrescoWall();
            int ends = 0;
            for (int k = 0; k < 3; k++) {
                // the middle one has edges of 3 and of 1, the others one each and others that fit none
                String end = ends == 0 ? "0,0:0;3,0:0;0,5:0" : "0,0:0;1,0:0;0,7:0";
                Check.bit(w, k == middle ? Check.box(3, 1, "0000") : end, 5, -1, 0);
                ends += k == middle ? 0 : 1;
            }
            CHECK.due("by way of " + middle, w.arrange(7), 54);
        }
    }

    private static void overlapByTolerance() {
        CHECK.of("6: no two OVERLAP by more than TOLERANCE");
        // of three, two have their best place at one edge of the third, and have two cells in common then
        String[] three = {Check.box(2, 7, "1999"), Check.box(2, 1, "2888"), Check.box(2, 3, "3777")};
        int[][] orders = {{0, 1, 2}, {0, 2, 1}, {1, 0, 2}, {1, 2, 0}, {2, 0, 1}, {2, 1, 0}};
        for (int[] order : orders) {
            FrescoWall w = new FrescoWall();
            for (int k : order) {
                Check.bit(w, three[k], 5, -1, 0);
            }
            w.likeness(1, 2, 9);
            w.likeness(1, 3, 9);
            for (int tolerance = 0; tolerance <= 3; tolerance++) {
                w.tolerance(tolerance);
                CHECK.due("with " + tolerance, w.arrange(7), tolerance < 2 ? 36 : 54);
            }
        }
        FrescoWall v = new FrescoWall();
        Check.bit(v, "-10,0:0;10,0:0;10,8:0;1,8:0;1,2:0;0,2:0;0,8:0;-10,8:0", 5, -1, 0);
        Check.bit(v, "-3,0:1;0,0:0;1,0:1;1,1:1;-3,1:1", 5, -1, 0);
        v.likeness(0, 1, 0);
        for (int tolerance = 0; tolerance <= 4; tolerance++) {
            v.tolerance(tolerance);
            // lying on the slot's floor it overlaps by three, upright in it by none
            CHECK.due("on the floor with " + tolerance, v.arrange(3), tolerance < 3 ? 9 : 27);
        }
    }

    private static void worthOfAllPairs() {
        CHECK.of("6: WORTH: the sum of SCORES of all pairs of EDGES of two of them that are on one another as FITS");
        FrescoWall w = new FrescoWall();
        // a corner of two unit edges, filled by a square, and both closed by a third one
        Check.bit(w, "0,0:0;2,0:0;2,1:1;1,1:2;1,2:0;0,2:0", 5, -1, 0);
        Check.bit(w, Check.box(1, 1, "1002"), 7, -1, 0);
        Check.bit(w, Check.box(1, 2, "0000"), 5, -1, 0);
        CHECK.due("two pairs at once", w.arrange(3), 25 + 25);
        dueArranged(w, 1, 0, 1, 1);
        CHECK.due("the third one's side is as long as no two of them", w.arrange(5), 27);
        // the same two pairs, whichever of the EDGES are the first ones
        String[] corner = {"0,0:0", "2,0:0", "2,1:1", "1,1:2", "1,2:0", "0,2:0"};
        String[] square = {"0,0:1", "1,0:0", "1,1:0", "0,1:2"};
        for (int first = 0; first < 6; first++) {
            for (int other = 0; other < 4; other++) {
                FrescoWall v = new FrescoWall();
                Check.bit(v, begunAt(corner, first), 5, -1, 0);
                Check.bit(v, begunAt(square, other), 7, -1, 0);
                Check.bit(v, Check.box(5, 7, "0000"), 5, -1, 0);
                CHECK.due("two pairs at once, begun at " + first + ", " + other, v.arrange(3), 50);
                dueArranged(v, 1, 0, 1, 1);
                CHECK.due("the third one hangs on none", v.arrange(7), -5);
            }
        }
        FrescoWall v = Check.squares(3);
        CHECK.due("a row or a hook", v.arrange(7), 54);
        // two squares side by side in a slot: each at its floor and a wall, and at the other one
        FrescoWall u = new FrescoWall();
        Check.bit(u, "0,2:0;2,-3:0;4,2:0;3,2:0;3,1:0;2,1:0;1,1:0;1,2:0", 5, -1, 0);
        Check.bit(u, Check.box(1, 1, "0000"), 5, -1, 0);
        Check.bit(u, Check.box(1, 1, "0000"), 5, -1, 0);
        CHECK.due("five pairs", u.arrange(7), 135);
        dueArranged(u, 1, 0, 1, 1);
        dueArranged(u, 2, 0, 2, 1);
    }

    private static String begunAt(String[] corners, int first) {
        StringBuilder text = new StringBuilder();
        for (int k = 0; k < corners.length; k++) {
            text.append(k == 0 ? "" : ";").append(corners[(first + k) % corners.length]);
        }
        return text.toString();
    }

    private static void mostWorth() {
        CHECK.of("6: THE BEST: the most WORTH; Promise 30: its WORTH");
        FrescoWall w = new FrescoWall();
        Check.bit(w, Check.box(1, 2, "1234"), 5, -1, 0);
        Check.bit(w, Check.box(1, 2, "5678"), 5, -1, 0);
        for (int n = 0; n <= 9; n++) {
            w.likeness(3, 5, n);
            CHECK.due("by likeness " + n, w.arrange(3), 9 + 2 * n);
        }
        dueArranged(w, 1, 0, 0, 2);
        w.likeness(1, 5, 9);
        CHECK.due("as much by a greater t", w.arrange(3), 27);
        dueArranged(w, 1, 0, 0, 2);
        w.likeness(3, 5, 8);
        CHECK.due("more by a greater t", w.arrange(3), 27);
        dueArranged(w, 1, 2, 1, 0);
        FrescoWall v = new FrescoWall();
        Check.bit(v, Check.box(2, 1, "0000"), 5, -1, 0);
        Check.bit(v, Check.box(2, 3, "1111"), 50, -1, 0);
        CHECK.due("nothing is a WORTH", v.arrange(3), 0);
        dueArranged(v, 1, 0, 0, -3);
    }

    private static void leastTurnOfTheSecond() {
        CHECK.of("6: of several the one with the least t of the second BIT");
        FrescoWall w = new FrescoWall();
        // the second one on the right without a turn, on the left by a quarter
        Check.bit(w, Check.box(1, 1, "9293"), 5, -1, 0);
        Check.bit(w, Check.box(1, 1, "3882"), 5, -1, 0);
        CHECK.due("arrange", w.arrange(3), 27);
        dueArranged(w, 1, 0, 1, 0);
        w.likeness(2, 2, 8);
        CHECK.due("arrange", w.arrange(3), 27);
        dueArranged(w, 1, 1, 0, 0);
    }

    private static void leastXOfTheSecond() {
        CHECK.of("6: then its least x");
        FrescoWall w = new FrescoWall();
        // without a turn on the left, on the right, below, above
        Check.bit(w, Check.box(1, 1, "1234"), 5, -1, 0);
        Check.bit(w, Check.box(1, 1, "5678"), 5, -1, 0);
        w.likeness(1, 7, 9);
        CHECK.due("below", w.arrange(3), 27);
        dueArranged(w, 1, 0, 0, -1);
        w.likeness(2, 8, 9);
        CHECK.due("on the right, too", w.arrange(3), 27);
        dueArranged(w, 1, 0, 0, -1);
        w.likeness(3, 5, 9);
        CHECK.due("above, too", w.arrange(3), 27);
        dueArranged(w, 1, 0, 0, -1);
        w.likeness(4, 6, 9);
        CHECK.due("on the left, too", w.arrange(3), 27);
        dueArranged(w, 1, 0, -1, 0);
    }

    private static void leastYOfTheSecond() {
        CHECK.of("6: then its least y");
        FrescoWall w = new FrescoWall();
        Check.bit(w, "0,0:1;3,0:1;3,3:1;0,3:2;0,2:2;0,1:2", 5, -1, 0);
        Check.bit(w, Check.box(1, 1, "9299"), 5, -1, 0);
        CHECK.due("three as good", w.arrange(3), 27);
        dueArranged(w, 1, 0, -1, 0);
        FrescoWall v = new FrescoWall();
        Check.bit(v, "0,0:1;3,0:1;3,3:1;0,3:3;0,2:2;0,1:4", 5, -1, 0);
        Check.bit(v, Check.box(1, 1, "9299"), 5, -1, 0);
        CHECK.due("one is best", v.arrange(3), 27);
        dueArranged(v, 1, 0, -1, 1);
    }

    private static void thenTheThird() {
        CHECK.of("6: then the third, and so on");
        FrescoWall w = new FrescoWall();
        // the second one's place is plain, the third one's may be any of the three on the left, or above the second one
        Check.bit(w, "0,0:1;3,0:1;3,3:5;0,3:2;0,2:2;0,1:2", 5, -1, 0);
        Check.bit(w, Check.box(3, 5, "5666"), 5, -1, 0);
        Check.bit(w, Check.box(1, 1, "9299"), 5, -1, 0);
        CHECK.due("arrange", w.arrange(7), 54);
        dueArranged(w, 1, 0, 0, 3);
        dueArranged(w, 2, 0, -1, 0);
        // the second one goes ahead of the third
        FrescoWall v = Check.squares(3);
        CHECK.due("arrange", v.arrange(7), 54);
        dueArranged(v, 1, 0, -2, 0);
        dueArranged(v, 2, 0, -1, 0);
        FrescoWall u = new FrescoWall();
        Check.bit(u, Check.box(1, 1, "9293"), 5, -1, 0);
        Check.bit(u, Check.box(1, 1, "4444"), 5, -1, 0);
        Check.bit(u, Check.box(1, 1, "3882"), 5, -1, 0);
        // the second one's least x, with the third one between, is worth the third one's greater t
        CHECK.due("arrange", u.arrange(7), 36);
        dueArranged(u, 1, 0, -2, 0);
        dueArranged(u, 2, 1, 0, 0);
    }

    private static void ofTheThirdItsTurnThenX() {
        CHECK.of("6: then the third (its least t, its least x)");
        FrescoWall w = new FrescoWall();
        Check.bit(w, Check.box(1, 1, "9253"), 5, -1, 0);
        Check.bit(w, Check.box(1, 1, "5777"), 5, -1, 0);
        Check.bit(w, Check.box(1, 1, "3882"), 5, -1, 0);
        CHECK.due("arrange", w.arrange(7), 54);
        dueArranged(w, 1, 0, 0, 1);
        dueArranged(w, 2, 0, 1, 0);
        w.likeness(2, 2, 8);
        CHECK.due("arrange", w.arrange(7), 54);
        dueArranged(w, 2, 1, 0, 0);
        FrescoWall v = new FrescoWall();
        Check.bit(v, Check.box(1, 1, "9254"), 5, -1, 0);
        Check.bit(v, Check.box(1, 1, "5777"), 5, -1, 0);
        Check.bit(v, Check.box(1, 1, "8482"), 5, -1, 0);
        CHECK.due("arrange", v.arrange(7), 54);
        dueArranged(v, 1, 0, 0, 1);
        dueArranged(v, 2, 0, -1, 0);
        v.likeness(4, 4, 8);
        CHECK.due("arrange", v.arrange(7), 54);
        dueArranged(v, 2, 0, 1, 0);
    }

    private static void latestThatToldAWorth() {
        CHECK.of("Promise 31: How a BIT is PLACED by the latest arrange() that told a WORTH");
        FrescoWall w = Check.squares(4);
        Check.bit(w, Check.box(7, 7, "0000"), 5, -1, 1);
        CHECK.due("none yet", w.arranged(0, 0), BELOW);
        CHECK.due("two", w.arrange(3), 27);
        dueArranged(w, 1, 0, -1, 0);
        CHECK.due("there is none", w.arrange(1 | 16), -5);
        CHECK.due("BAD", w.arrange(1), -2);
        CHECK.due("BAD", w.arrange(15), -2);
        dueArranged(w, 0, 0, 0, 0);
        dueArranged(w, 1, 0, -1, 0);
        CHECK.due("three", w.arrange(14), 54);
        dueArranged(w, 1, 0, 0, 0);
        dueArranged(w, 2, 0, -2, 0);
        CHECK.due("no longer", w.arranged(0, 0), BELOW);
        CHECK.due("two", w.arrange(9), 27);
        CHECK.due("no longer", w.arranged(1, 0), BELOW);
        CHECK.due("no longer", w.arranged(2, 0), BELOW);
        dueArranged(w, 3, 0, -1, 0);
        // what comes later doesn't move them
        w.likeness(0, 0, 0);
        w.tolerance(1);
        w.word(3, 2, 9, 9);
        dueArranged(w, 3, 0, -1, 0);
    }

    private static void arrangedNone() {
        CHECK.of("Promise 31: what 0 t, 1 x, 2 y. -100000");
        FrescoWall w = Check.squares(3);
        w.arrange(3);
        for (int bit : new int[] {-1, 2, 3, 29, 30, 31, 32, 33, Integer.MIN_VALUE, Integer.MAX_VALUE}) {
            for (int what = 0; what <= 2; what++) {
                CHECK.due("bit " + bit, w.arranged(bit, what), BELOW);
            }
        }
        for (int what : new int[] {-1, 3, Integer.MIN_VALUE, Integer.MAX_VALUE}) {
            CHECK.due("what " + what, w.arranged(0, what), BELOW);
            CHECK.due("what " + what, w.arranged(1, what), BELOW);
        }
    }
}
