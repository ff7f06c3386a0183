/** Promises 27 to 31. */
public final class PhotographTest {
    private static final Check CHECK = new Check("PhotographTest");
    private static final int BELOW = -100000;

    public static void main(String[] args) {
        faults();
        photographs();
        agreeing();
        bestPlacings();
        arrangeTwo();
        arrangeThree();
        arrangeEdges();
        arrangeRefused();
        CHECK.end();
    }

    private static void fault(String text, int place) {
        FrescoWall w = new FrescoWall();
        CHECK.due("fault of " + text, Check.photograph(w, text, 0, 0, 0), -10 - place);
        CHECK.due("tape", w.count(7), 0);
    }

    private static void faults() {
        fault("", 0);
        fault("/", 0);
        fault("x", 0);
        fault("01/", 3);
        fault("01/0", 4);
        fault("01/0/", 4);
        fault("01//", 3);
        fault("01/012", 5);
        fault("01/01 ", 5);
        fault("01234567890123456", 16);
        fault("0/0/0/0/0/0/0/0/0/0/0/0/0/0/0/0/", 31);
        fault("0/0/0/0/0/0/0/0/0/0/0/0/0/0/0/0/0", 31);
        fault("01" + (char) 200, 2);
    }

    private static void photographs() {
        FrescoWall w = new FrescoWall();
        CHECK.due("widest", Check.photograph(w, "0123456789......", 0, 0, 0), 10);
        CHECK.due("highest", Check.photograph(w, "0/0/0/0/0/0/0/0/0/0/0/0/0/0/0/1", -500, 500, 3), 2);
        CHECK.due("unknown", Check.photograph(w, "./.", 0, 0, 0), 0);
        Check.feed(w, "777");
        CHECK.due("x", w.photograph(501, 0, 0), -2);
        CHECK.due("y", w.photograph(0, -501, 0), -2);
        CHECK.due("doubt", w.photograph(0, 0, 4), -2);
        CHECK.due("doubt", w.photograph(0, 0, -1), -2);
        CHECK.due("tape", w.count(7), 3);
        CHECK.due("photograph", w.photograph(0, 0, 0), 1);
        CHECK.due("tape", w.count(7), 0);
    }

    private static void agreeing() {
        FrescoWall w = new FrescoWall();
        Check.bit(w, Check.box(3, 1, "0000") + "|0,0=1|2,0=2", 5, 0, 0);
        Check.bit(w, Check.box(3, 1, "0000"), 5, 0, 0);
        CHECK.due("no photograph", w.agree(0, 0, 0, 0), -3);
        CHECK.due("BAD ahead of STATE", w.agree(0, 4, 0, 0), -2);
        CHECK.due("no photograph", w.best(0, 0), -100001);
        Check.photograph(w, "1.2", 10, 20, 0);
        CHECK.due("both", w.agree(0, 0, 10, 20), 2);
        CHECK.due("off by one", w.agree(0, 0, 11, 20), 0);
        CHECK.due("half off", w.agree(0, 0, 12, 20), 0);
        CHECK.due("turned", w.agree(0, 2, 13, 21), 0);
        CHECK.due("turned", w.agree(0, 1, 11, 20), 1);
        CHECK.due("turned", w.agree(0, 3, 12, 23), 1);
        CHECK.due("none", w.agree(1, 0, 10, 20), 0);
        CHECK.due("no bit", w.agree(2, 0, 10, 20), -1);
        CHECK.due("bad", w.agree(0, 0, 501, 20), -2);
        CHECK.due("far", w.agree(0, 0, -500, 500), 0);
        Check.photograph(w, "1.2", 10, 20, 2);
        CHECK.due("with doubt", w.agree(0, 0, 12, 22), 2);
        CHECK.due("outside of it", w.agree(0, 0, 10, 18), 2);
        CHECK.due("too far", w.agree(0, 0, 10, 17), 0);
        CHECK.due("too far right", w.agree(0, 0, 13, 20), 0);
        CHECK.due("too far left", w.agree(0, 0, 7, 20), 0);
        CHECK.due("left", w.agree(0, 0, 8, 20), 2);
        Check.photograph(w, "2222222222222222/................", 0, 0, 3);
        for (int x = -6; x < 24; x++) {
            // the second spot, at x + 2
            CHECK.due("wide " + x, w.agree(0, 0, x, 1), x + 2 >= -3 && x + 2 < 19 ? 1 : 0);
            CHECK.due("low " + x, w.agree(0, 0, 0, x), x >= -2 && x <= 4 ? 1 : 0);
        }
        Check.photograph(w, "1.2", 10, 20, 2);
        // refused ones leave it as it is
        Check.photograph(w, "1.2/", 10, 20, 0);
        CHECK.due("the old one", w.agree(0, 0, 8, 20), 2);
    }

    private static void dueBest(FrescoWall w, int bit, int agree, int t, int x, int y, int rivals) {
        CHECK.due("best agree", w.best(bit, 0), agree);
        CHECK.due("best t", w.best(bit, 1), t);
        CHECK.due("best x", w.best(bit, 2), x);
        CHECK.due("best y", w.best(bit, 3), y);
        CHECK.due("best rivals", w.best(bit, 4), rivals);
    }

    private static void bestPlacings() {
        FrescoWall w = new FrescoWall();
        Check.bit(w, Check.box(1, 1, "0000") + "|0,0=1", 5, 0, 0);
        Check.bit(w, Check.box(3, 1, "0000") + "|0,0=1|2,0=2", 5, 0, 0);
        Check.bit(w, Check.box(3, 1, "0000"), 5, 0, 0);
        Check.photograph(w, "101/000", 10, 20, 0);
        // one cell, two places, four turns
        dueBest(w, 0, 1, 0, 10, 21, 7);
        CHECK.due("what", w.best(0, 5), BELOW);
        CHECK.due("what", w.best(0, -1), BELOW);
        CHECK.due("bit", w.best(3, 0), BELOW);
        CHECK.due("no spots", w.best(2, 0), -100001);
        // just lying down, both ways, in both rows: 1 in the upper row
        dueBest(w, 1, 1, 0, 10, 21, 1);
        Check.photograph(w, "22/22", 10, 20, 3);
        CHECK.due("no placing", w.best(1, 0), -100001);
        // none agrees: all places in all turns
        dueBest(w, 0, 0, 0, 10, 20, 15);
        Check.photograph(w, "2/./1", 0, 0, 0);
        dueBest(w, 1, 2, 1, 1, 0, 0);
        Check.photograph(w, "1/./2", 0, 0, 0);
        dueBest(w, 1, 2, 3, 0, 3, 0);
        Check.photograph(w, "1.2", 500, 500, 0);
        dueBest(w, 1, 2, 0, 500, 500, 0);
        Check.photograph(w, "2.1", 500, 500, 0);
        // behind where a hand could put it
        dueBest(w, 1, 2, 2, 503, 501, 0);
        // least y goes ahead of least x
        Check.photograph(w, "1../..1", 0, 0, 0);
        dueBest(w, 0, 1, 0, 2, 0, 7);
    }

    private static void arrangeTwo() {
        FrescoWall w = new FrescoWall();
        Check.bit(w, Check.box(2, 1, "0000"), 5, -1, 0);
        Check.bit(w, Check.box(3, 1, "0000"), 5, -1, 0);
        Check.bit(w, Check.box(3, 1, "0000"), 5, -1, 1);
        CHECK.due("none yet", w.arranged(0, 0), BELOW);
        CHECK.due("by short edges", w.arrange(3), 27);
        CHECK.due("first", w.arranged(0, 0), 0);
        CHECK.due("first", w.arranged(0, 1), 0);
        CHECK.due("first", w.arranged(0, 2), 0);
        CHECK.due("t", w.arranged(1, 0), 0);
        CHECK.due("the least x", w.arranged(1, 1), -3);
        CHECK.due("y", w.arranged(1, 2), 0);
        CHECK.due("what", w.arranged(1, 3), BELOW);
        CHECK.due("what", w.arranged(1, -1), BELOW);
        CHECK.due("not in it", w.arranged(2, 0), BELOW);
        CHECK.due("no bit", w.arranged(3, 0), BELOW);
        CHECK.due("other plaster", w.arrange(6), -5);
        CHECK.due("the latest that told a worth", w.arranged(1, 1), -3);
    }

    private static void arrangeThree() {
        FrescoWall w = new FrescoWall();
        // 0 fits 2 alone, 1 fits 2 alone
        Check.bit(w, "0,0:0;3,0:0;0,4:0", 5, -1, 0);
        Check.bit(w, "0,0:0;1,0:0;0,2:0", 5, -1, 0);
        Check.bit(w, Check.box(3, 1, "0000"), 5, -1, 0);
        CHECK.due("none", w.arrange(3), -5);
        // 0's lower edge with 2's longer ones; 1's lower edge with 2's sides
        CHECK.due("by way of the third", w.arrange(7), 54);
        CHECK.due("second", w.arranged(1, 0), 1);
        // two unit squares and one more: a row has two joins, so has a hook
        FrescoWall v = new FrescoWall();
        for (int k = 0; k < 4; k++) {
            Check.bit(v, Check.box(1, 1, "0000"), 5, -1, 0);
        }
        CHECK.due("squares", v.arrange(14), 54);
        CHECK.due("least", v.arranged(1, 1), 0);
        CHECK.due("second", v.arranged(2, 0), 0);
        // second left of the first; or farther left, with the third between them
        CHECK.due("second", v.arranged(2, 1), -2);
        CHECK.due("second", v.arranged(2, 2), 0);
        CHECK.due("third", v.arranged(3, 1), -1);
        CHECK.due("third", v.arranged(3, 2), 0);
        // a corner that two others fill: three pairs of edges
        FrescoWall u = new FrescoWall();
        Check.bit(u, "0,0:0;2,0:0;2,1:0;1,1:0;1,2:0;0,2:0", 5, -1, 0);
        Check.bit(u, Check.box(1, 1, "0000"), 5, -1, 0);
        Check.bit(u, Check.box(1, 2, "0000"), 5, -1, 0);
        CHECK.due("fills the corner", u.arrange(3), 54);
        CHECK.due("second", u.arranged(1, 1), 1);
        CHECK.due("second", u.arranged(1, 2), 1);
        CHECK.due("three", u.arrange(7), 81);
    }

    private static void arrangeEdges() {
        FrescoWall w = new FrescoWall();
        Check.bit(w, Check.box(2, 1, "0000"), 5, -1, 0);
        Check.bit(w, Check.box(2, 3, "1111"), 50, -1, 0);
        CHECK.due("worth nothing", w.arrange(3), 0);
        CHECK.due("told all the same", w.arranged(1, 0), 0);
        CHECK.due("told all the same", w.arranged(1, 2), -3);
        // two pairs of edges in one placing, the first that is found
        FrescoWall v = new FrescoWall();
        Check.bit(v, "0,0:0;1,0:0;2,0:0;2,3:0;0,3:0", 5, -1, 0);
        Check.bit(v, "1,0:0;2,0:0;2,4:0;0,4:0;0,0:0", 5, -1, 0);
        CHECK.due("two pairs", v.arrange(3), 54);
        CHECK.due("t", v.arranged(1, 0), 2);
        CHECK.due("x", v.arranged(1, 1), 2);
        CHECK.due("y", v.arranged(1, 2), 0);
        // both others would be best at one place
        FrescoWall u = new FrescoWall();
        Check.bit(u, Check.box(2, 1, "5000"), 5, -1, 0);
        Check.bit(u, Check.box(2, 3, "5111"), 5, -1, 0);
        Check.bit(u, Check.box(2, 3, "5222"), 5, -1, 0);
        CHECK.due("one of them", u.arrange(7), 36);
        CHECK.due("tolerance", u.tolerance(1), 0);
        CHECK.due("one of them", u.arrange(7), 36);
        CHECK.due("tolerance", u.tolerance(2), 1);
        // the small one lies on one of the others then
        CHECK.due("both", u.arrange(7), 54);
    }

    private static void arrangeRefused() {
        FrescoWall w = new FrescoWall();
        for (int k = 0; k < 4; k++) {
            Check.bit(w, Check.box(1, 1, "0000"), 5, -1, 0);
        }
        CHECK.due("none", w.arrange(0), -2);
        CHECK.due("one", w.arrange(4), -2);
        CHECK.due("four", w.arrange(15), -2);
        CHECK.due("no such bit", w.arrange(17), -2);
        CHECK.due("no such bit", w.arrange(Integer.MIN_VALUE | 3), -2);
        CHECK.due("no such bit", w.arrange(-1), -2);
        CHECK.due("none told", w.arranged(0, 0), BELOW);
    }
}
