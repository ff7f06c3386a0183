/** Promises 1 to 7, and 38 of an empty object. */
public final class BitsTest {
    private static final Check CHECK = new Check("BitsTest");
    private static final int BELOW = -100000;

    public static void main(String[] args) {
        newObject();
        feeding();
        faults();
        rings();
        spots();
        refusals();
        aboutBits();
        overlapping();
        tolerances();
        CHECK.end();
    }

    private static void newObject() {
        FrescoWall w = new FrescoWall();
        for (int what = 0; what <= 8; what++) {
            CHECK.due("count " + what, w.count(what), 0);
        }
        CHECK.due("count", w.count(9), -1);
        CHECK.due("count", w.count(-1), -1);
        CHECK.due("about", w.about(0, 0), BELOW);
        CHECK.due("best", w.best(0, 0), BELOW);
        CHECK.due("agree", w.agree(0, 0, 0, 0), -1);
        CHECK.due("clash", w.clash(0), -1);
        CHECK.due("asked", w.asked(0), -1);
        CHECK.due("arranged", w.arranged(0, 0), BELOW);
        CHECK.due("at", w.at(0, 0), -1);
        CHECK.due("tolerance", w.tolerance(0), 0);
        CHECK.due("likeness", w.likeness(4, 4, 9), 9);
        CHECK.due("likeness", w.likeness(4, 5, 0), 0);
        CHECK.due("share", w.share(-1), 0);
        CHECK.due("share", w.share(5), 5);
    }

    private static void feeding() {
        FrescoWall w = new FrescoWall();
        CHECK.due("feed", w.feed(0, 0), -2);
        CHECK.due("feed", w.feed(0, 9), -2);
        CHECK.due("feed", w.feed(0, -1), -2);
        CHECK.due("feed", w.feed(0, Integer.MIN_VALUE), -2);
        for (int k = 1; k <= 29; k++) {
            CHECK.due("feed", w.feed(-1L, 8), 8 * k);
        }
        CHECK.due("feed", w.feed(7, 7), 239);
        CHECK.due("feed", w.feed(7, 2), -4);
        CHECK.due("count", w.count(7), 239);
        CHECK.due("feed", w.feed(7, 1), 240);
        CHECK.due("feed", w.feed(7, 1), -4);
        CHECK.due("feed", w.feed(7, 9), -2);
        CHECK.due("bit", w.bit(1, 0, 0), -10);
        CHECK.due("count", w.count(7), 0);
        // the highest byte of the n lowest ones comes first
        CHECK.due("feed", w.feed(0x4142433C35L | 'p' << 16, 3), 3);
        CHECK.due("ask", w.ask(), 0);
    }

    private static void faults() {
        fault("", 0);
        fault("0", 1);
        fault("-", 1);
        fault("-0", 1);
        fault("00", 1);
        fault("01,0:1", 1);
        fault("20,20:1;21", 9);
        fault("20,20:1;-21", 10);
        fault("199", 2);
        fault("99", 1);
        fault("1;", 1);
        fault("1,:", 2);
        fault("1,1=", 3);
        fault("1,1:x", 4);
        fault("1,1:12", 5);
        fault("1,1:1,", 5);
        fault("1,1:1;", 6);
        fault("0,0:1;3,0:1|", 11);
        fault("0,0:1;3,0:1", 11);
        fault("0,0:1;3,0:1;", 12);
        fault("0,0:1;3,0:1;0,3:1|", 18);
        fault("0,0:1;3,0:1;0,3:1|0,0:", 21);
        fault("0,0:1;3,0:1;0,3:1|0,0=1;", 23);
        fault("0,0:1;3,0:1;0,3:1|0,0=1|", 24);
        fault("0,0:1;3,0:1;0,3:1 ", 17);
        fault(" 0,0:1", 0);
        fault("0,0:1;3,0:1;0,3:1" + "|0,0=1|1,0=1|0,1=1|2,0=1|0,2=1|", 47);
        fault("0,0:1;1,0:1;2,0:1;3,0:1;4,0:1;4,1:1;4,2:1;4,3:1;", 47);
        fault("0,0:1;3,0:1;0,3:1" + (char) 233, 17);
        // fault goes ahead of what is no ring
        fault("0,0:1;0,0:1;0,0:1;x", 18);
    }

    private static void fault(String text, int place) {
        FrescoWall w = new FrescoWall();
        CHECK.due("fault of " + text, Check.bit(w, text, 5, 0, 0), -10 - place);
        CHECK.due("tape behind " + text, w.count(7), 0);
        CHECK.due("bits behind " + text, w.count(0), 0);
    }

    private static void rings() {
        ring("0,0:1;3,0:1;0,3:1", 0);
        ring("0,0:1;0,3:1;3,0:1", -5);
        ring("0,0:1;1,0:1;2,0:1;0,2:1", 0);
        ring("0,0:1;1,0:1;2,0:1", -5);
        ring("0,0:1;0,0:1;2,0:1;0,2:1", -5);
        ring("0,0:1;2,0:1;0,2:1;0,0:1", -5);
        ring("0,0:1;2,2:1;2,0:1;0,2:1", -5);
        ring("0,0:1;4,0:1;4,4:1;2,0:1;0,4:1", -5);
        ring("0,0:1;4,0:1;2,0:1;0,4:1", -5);
        ring("0,0:1;4,0:1;4,4:1;2,2:1;0,4:1", 0);
        ring("0,0:1;4,0:1;4,4:1;4,2:1;0,4:1", -5);
        ring("0,0:1;3,0:1;3,3:1;0,0:1;0,3:1", -5);
        ring("-20,-20:1;20,-20:1;20,20:1;-20,20:1", 0);
        ring("0,0:1;2,0:1;2,2:1;1,0:1;0,2:1", -5);
        // a corner that touches an edge which is no neighbour: left, lower, right, upper
        ring("0,0:1;4,0:1;0,2:1;4,4:1;0,4:1", -5);
        ring("4,0:1;4,4:1;2,0:1;0,4:1;0,0:1", -5);
        ring("4,4:1;0,4:1;4,2:1;0,0:1;4,0:1", -5);
        ring("0,4:1;0,0:1;2,4:1;4,0:1;4,4:1", -5);
        ring("0,0:1;4,0:1;1,2:1;4,4:1;0,4:1", 0);
        ring("0,0:1;1,0:1;2,0:1;3,0:1;3,1:1;2,1:1;1,1:1;0,1:9", 0);
    }

    private static void ring(String text, int answer) {
        FrescoWall w = new FrescoWall();
        CHECK.due("ring " + text, Check.bit(w, text, 5, 0, 0), answer);
        CHECK.due("tape behind " + text, w.count(7), 0);
    }

    private static void spots() {
        ring("0,0:1;3,0:1;0,3:1|0,0=5|1,0=5|0,1=5", 0);
        ring("0,0:1;3,0:1;0,3:1|2,0=5", -6);
        ring("0,0:1;3,0:1;0,3:1|0,0=5|0,0=5", -6);
        ring("0,0:1;3,0:1;0,3:1|0,0=5|0,0=6", -6);
        ring("0,0:1;3,0:1;0,3:1|-1,0=5", -6);
        ring("0,0:1;3,0:1;0,3:1|20,20=5", -6);
        ring("0,0:1;0,3:1;3,0:1|9,9=1", -5);
    }

    private static void refusals() {
        FrescoWall w = new FrescoWall();
        Check.feed(w, "0,0:1;3,0:1;0,3:1");
        CHECK.due("thick", w.bit(0, 0, 0), -2);
        CHECK.due("thick", w.bit(100, 0, 0), -2);
        CHECK.due("straw", w.bit(1, -2, 0), -2);
        CHECK.due("straw", w.bit(1, 4, 0), -2);
        CHECK.due("plaster", w.bit(1, 0, -1), -2);
        CHECK.due("plaster", w.bit(1, 0, 10), -2);
        CHECK.due("tape", w.count(7), 17);
        CHECK.due("bit", w.bit(99, 3, 9), 0);
        CHECK.due("tape", w.count(7), 0);
        for (int k = 1; k < 30; k++) {
            CHECK.due("bit", Check.bit(w, "0,0:1;1,0:1;0,1:1", 1, -1, 0), k);
        }
        Check.feed(w, "nonsense");
        CHECK.due("full", w.bit(1, 0, 0), -4);
        CHECK.due("bad ahead of full", w.bit(0, 0, 0), -2);
        CHECK.due("tape", w.count(7), 8);
        CHECK.due("bits", w.count(0), 30);
        CHECK.due("about", w.about(29, 0), 3);
        CHECK.due("about", w.about(30, 0), BELOW);
    }

    private static void aboutBits() {
        FrescoWall w = new FrescoWall();
        Check.bit(w, "-20,-20:1;20,-20:2;20,20:3;-20,20:4|-20,-20=7|19,19=8", 99, -1, 9);
        Check.bit(w, "0,0:0;4,0:1;4,4:2;2,2:3;0,4:9", 7, 2, 3);
        int[] first = {4, 3200, 1600, 2, 99, -1, 9};
        int[] second = {5, 24, 10, 0, 7, 2, 3};
        for (int what = 0; what <= 6; what++) {
            CHECK.due("about 0 " + what, w.about(0, what), first[what]);
            CHECK.due("about 1 " + what, w.about(1, what), second[what]);
        }
        CHECK.due("about", w.about(0, 7), BELOW);
        CHECK.due("about", w.about(0, -1), BELOW);
        CHECK.due("about", w.about(-1, 0), BELOW);
        CHECK.due("about", w.about(2, 0), BELOW);
        CHECK.due("corner", w.corner(0, 0, 0), -20);
        CHECK.due("corner", w.corner(0, 1, 1), -20);
        CHECK.due("corner", w.corner(0, 1, 0), 20);
        CHECK.due("corner", w.corner(0, 3, 2), 4);
        CHECK.due("corner", w.corner(1, 4, 2), 9);
        CHECK.due("corner", w.corner(0, 4, 2), BELOW);
        CHECK.due("corner", w.corner(1, 5, 2), BELOW);
        CHECK.due("corner", w.corner(1, -1, 2), BELOW);
        CHECK.due("corner", w.corner(1, 0, 3), BELOW);
        CHECK.due("corner", w.corner(1, 0, -1), BELOW);
        CHECK.due("corner", w.corner(2, 0, 0), BELOW);
        CHECK.due("corner", w.corner(Integer.MIN_VALUE, 0, 0), BELOW);
    }

    private static void overlapping() {
        FrescoWall w = new FrescoWall();
        Check.bit(w, "-20,-20:1;20,-20:2;20,20:3;-20,20:4", 5, 0, 0);
        Check.bit(w, "0,0:1;2,0:1;2,1:1;0,1:1", 5, 0, 0);
        CHECK.due("overlap", w.overlap(0, 1, 0, 0, 0), 2);
        CHECK.due("overlap", w.overlap(0, 1, 0, 19, 19), 1);
        CHECK.due("overlap", w.overlap(0, 1, 1, -19, 19), 1);
        CHECK.due("overlap", w.overlap(0, 1, 1, 20, 18), 2);
        CHECK.due("overlap", w.overlap(0, 1, 2, -18, -19), 2);
        CHECK.due("overlap", w.overlap(0, 1, 3, -20, -18), 2);
        CHECK.due("overlap", w.overlap(0, 1, 3, -20, -19), 1);
        CHECK.due("overlap", w.overlap(0, 1, 3, 20, 0), 0);
        CHECK.due("overlap", w.overlap(1, 0, 0, -19, 0), 1);
        CHECK.due("overlap", w.overlap(1, 0, 0, 21, 0), 1);
        CHECK.due("overlap", w.overlap(1, 0, 0, 500, -500), 0);
        for (int far : new int[] {40, 41, 63, 64, 65, 128, 500}) {
            CHECK.due("far", w.overlap(0, 1, 0, far, 0), 0);
            CHECK.due("far", w.overlap(0, 1, 0, -far, 0), 0);
            CHECK.due("far", w.overlap(0, 1, 0, 0, far), 0);
            CHECK.due("far", w.overlap(0, 1, 0, 0, -far), 0);
        }
        CHECK.due("overlap", w.overlap(1, 0, 0, 501, 0), -2);
        CHECK.due("overlap", w.overlap(1, 0, 0, 0, -501), -2);
        CHECK.due("overlap", w.overlap(1, 0, 4, 0, 0), -2);
        CHECK.due("overlap", w.overlap(1, 0, -1, 0, 0), -2);
        CHECK.due("overlap", w.overlap(1, 1, 0, 0, 0), -2);
        CHECK.due("overlap", w.overlap(1, 2, 9, 0, 0), -1);
        CHECK.due("overlap", w.overlap(-1, 0, 9, 0, 0), -1);
    }

    private static void tolerances() {
        FrescoWall w = new FrescoWall();
        CHECK.due("tolerance", w.tolerance(30), 0);
        CHECK.due("tolerance", w.tolerance(31), -2);
        CHECK.due("tolerance", w.tolerance(-1), -2);
        CHECK.due("tolerance", w.tolerance(4), 30);
        CHECK.due("tolerance", w.tolerance(0), 4);
    }
}
