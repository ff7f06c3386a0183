/** Promises 8 to 13. */
public final class FitsTest {
    private static final Check CHECK = new Check("FitsTest");
    private static final int BELOW = -100000;

    public static void main(String[] args) {
        likenesses();
        scores();
        straws();
        turns();
        orders();
        rivals();
        tolerance();
        CHECK.end();
    }

    private static void likenesses() {
        FrescoWall w = new FrescoWall();
        CHECK.due("likeness", w.likeness(0, 9, 4), 0);
        CHECK.due("likeness the other way", w.likeness(9, 0, 5), 4);
        CHECK.due("likeness", w.likeness(0, 9, 0), 5);
        CHECK.due("likeness of alike ones", w.likeness(3, 3, 0), 9);
        CHECK.due("likeness of alike ones", w.likeness(3, 3, 9), 0);
        CHECK.due("no colour", w.likeness(-1, 0, 0), -1);
        CHECK.due("no colour", w.likeness(0, 10, 0), -1);
        CHECK.due("NONE ahead of BAD", w.likeness(0, 10, 10), -1);
        CHECK.due("n", w.likeness(0, 0, 10), -2);
        CHECK.due("n", w.likeness(0, 0, -1), -2);
        CHECK.due("unchanged", w.likeness(0, 0, 9), 9);
    }

    private static void scores() {
        FrescoWall w = new FrescoWall();
        Check.bit(w, Check.box(2, 2, "1234"), 10, -1, 0);
        Check.bit(w, Check.box(2, 2, "1567"), 13, -1, 0);
        Check.bit(w, Check.box(2, 3, "1567"), 10, -1, 1);
        Check.bit(w, Check.box(2, 2, "1567"), 20, -1, 0);
        CHECK.due("alike, 3 thicker", w.score(0, 0, 1, 0), 24);
        CHECK.due("the other way", w.score(1, 0, 0, 0), 24);
        CHECK.due("not alike", w.score(0, 1, 1, 1), 6);
        w.likeness(5, 2, 7);
        CHECK.due("told alike", w.score(0, 1, 1, 1), 20);
        CHECK.due("told alike", w.score(1, 1, 0, 1), 20);
        CHECK.due("another plaster", w.score(0, 0, 2, 0), -3);
        CHECK.due("10 thicker", w.score(0, 0, 3, 0), 18);
        CHECK.due("no edge", w.score(0, 4, 1, 0), -1);
        CHECK.due("no edge", w.score(0, 0, 1, -1), -1);
        CHECK.due("no bit", w.score(4, 0, 1, 0), -1);
        CHECK.due("one bit", w.score(1, 0, 1, 2), -2);
        CHECK.due("one bit, no edge", w.score(1, 0, 1, 4), -1);
    }

    private static void straws() {
        FrescoWall w = new FrescoWall();
        Check.bit(w, Check.box(2, 2, "0000"), 5, 1, 0);
        Check.bit(w, Check.box(2, 2, "1111"), 5, 1, 0);
        Check.bit(w, Check.box(2, 2, "1111"), 5, 3, 0);
        Check.bit(w, Check.box(2, 2, "1111"), 5, -1, 0);
        // right edge: the other's left edge needs no turn, its upper edge a quarter, its right edge two
        CHECK.due("same straw", w.score(0, 1, 1, 3), 14);
        CHECK.due("a quarter off", w.score(0, 1, 1, 2), 9);
        CHECK.due("half a turn", w.score(0, 1, 1, 1), 14);
        CHECK.due("across", w.score(0, 1, 2, 3), 9);
        CHECK.due("across, turned", w.score(0, 1, 2, 2), 14);
        CHECK.due("none", w.score(0, 1, 3, 3), 9);
        CHECK.due("none", w.score(3, 1, 0, 3), 9);
    }

    private static void turns() {
        FrescoWall w = new FrescoWall();
        Check.bit(w, "1,1:0;4,2:0;2,5:0", 5, 0, 0);
        Check.bit(w, "0,0:0;3,1:0;1,4:0", 5, 0, 0);
        Check.bit(w, "0,0:0;4,0:0;0,3:0", 5, 0, 0);
        // (1,1)-(4,2) against (0,0)-(3,1): half a turn, begins at (4,2)
        int[] half = {2, 4, 2};
        // (2,5)-(1,1) against (1,4)-(0,0) is half a turn: (1,4) to (-1,-4), and begins at (1,1)
        int[] last = {2, 2, 5};
        for (int what = 0; what < 3; what++) {
            CHECK.due("turned " + what, w.turned(0, 0, 1, 0, what), half[what]);
            CHECK.due("turned " + what, w.turned(0, 2, 1, 2, what), last[what]);
            CHECK.due("no fit", w.turned(0, 0, 2, 0, what), BELOW);
            CHECK.due("no turn", w.turned(0, 0, 1, 1, what), BELOW);
            CHECK.due("one bit", w.turned(0, 0, 0, 0, what), BELOW);
            CHECK.due("no bit", w.turned(0, 0, 3, 0, what), BELOW);
            CHECK.due("no edge", w.turned(0, 3, 1, 0, what), BELOW);
        }
        CHECK.due("no what", w.turned(0, 0, 1, 0, 3), BELOW);
        CHECK.due("no what", w.turned(0, 0, 1, 0, -1), BELOW);
        Check.bit(w, Check.box(2, 3, "0000"), 5, 0, 1);
        Check.bit(w, Check.box(3, 1, "0000"), 5, 0, 1);
        // right edge (2,0)-(2,3), the other's upper edge (3,1)-(0,1) goes down by a quarter: (-1,3) to (-1,0)
        int[] quarter = {1, 3, 0};
        // the other's lower edge (0,0)-(3,0) goes down by three quarters
        int[] three = {3, 2, 3};
        for (int what = 0; what < 3; what++) {
            CHECK.due("quarter " + what, w.turned(3, 1, 4, 2, what), quarter[what]);
            CHECK.due("three quarters " + what, w.turned(3, 1, 4, 0, what), three[what]);
        }
    }

    private static void orders() {
        FrescoWall w = new FrescoWall();
        Check.bit(w, Check.box(2, 1, "5000"), 5, -1, 0);
        Check.bit(w, Check.box(2, 1, "0050"), 5, -1, 0);
        Check.bit(w, Check.box(2, 1, "5000"), 4, -1, 0);
        Check.bit(w, Check.box(2, 1, "5050"), 5, -1, 0);
        int[] due = {12, 30, 32, 20, 10, 22};
        CHECK.due("fits", w.fits(0, 0), 6);
        for (int i = 0; i < 6; i++) {
            CHECK.due("fit " + i, w.fit(0, 0, i), due[i]);
        }
        CHECK.due("fit", w.fit(0, 0, 6), -1);
        CHECK.due("fit", w.fit(0, 0, -1), -1);
        CHECK.due("fit", w.fit(0, 4, 0), -1);
        CHECK.due("fit", w.fit(4, 0, 0), -1);
        CHECK.due("fits", w.fits(4, 0), -1);
        CHECK.due("fits", w.fits(0, 4), -1);
        CHECK.due("fits", w.fits(0, -1), -1);
        w.likeness(5, 5, 0);
        w.likeness(5, 0, 9);
        CHECK.due("fits", w.fits(0, 0), 6);
        CHECK.due("fit", w.fit(0, 0, 0), 10);
        CHECK.due("fit", w.fit(0, 0, 1), 22);
    }

    private static void rivals() {
        FrescoWall w = new FrescoWall();
        Check.bit(w, Check.box(2, 1, "5678"), 5, -1, 0);
        Check.bit(w, Check.box(2, 1, "5000"), 5, -1, 0);
        CHECK.due("best both ways", w.rival(0, 0, 1, 0), -5);
        CHECK.due("a better one of a", w.rival(0, 0, 1, 2), 10);
        CHECK.due("one as good of a ahead of a better one of b", w.rival(0, 2, 1, 0), 12);
        Check.bit(w, Check.box(2, 1, "0050"), 5, -1, 0);
        CHECK.due("as good", w.rival(0, 0, 1, 0), 22);
        CHECK.due("as good", w.rival(0, 0, 2, 2), 10);
        CHECK.due("as good, told of b", w.rival(1, 0, 0, 0), 1022);
        w.likeness(5, 5, 1);
        CHECK.due("alike", w.rival(1, 0, 2, 2), 1000);
        CHECK.due("no edge", w.rival(0, 4, 1, 0), -1);
        CHECK.due("no bit", w.rival(0, 0, 3, 0), -1);
        CHECK.due("one bit", w.rival(0, 0, 0, 2), -2);
        CHECK.due("no fit", w.rival(0, 0, 1, 1), -3);
        FrescoWall v = new FrescoWall();
        Check.bit(v, Check.box(2, 1, "5678"), 5, -1, 0);
        Check.bit(v, Check.box(2, 1, "5000"), 7, -1, 0);
        Check.bit(v, Check.box(2, 1, "5000"), 9, -1, 0);
        CHECK.due("just worse ones of a, a better one of b", v.rival(0, 0, 1, 0), 1020);
        CHECK.due("told from the other side", v.rival(1, 0, 0, 0), 1020);
    }

    private static void tolerance() {
        FrescoWall w = new FrescoWall();
        // a notch of two cells: the other one laid along its lower edge runs into its sides
        Check.bit(w, "0,0:0;4,0:0;4,2:0;3,2:0;3,1:0;1,1:0;1,2:0;0,2:0", 5, -1, 0);
        Check.bit(w, "0,0:0;2,0:0;3,1:0;-1,1:0", 5, -1, 0);
        Check.bit(w, Check.box(2, 1, "0000"), 5, -1, 0);
        CHECK.due("fills the notch", w.score(0, 4, 2, 0), 27);
        CHECK.due("edge 4 against the lower one", w.score(0, 4, 1, 0), 27);
        Check.bit(w, "0,0:0;2,0:0;4,2:0;-2,2:0", 5, -1, 0);
        // turned half round on the notch's floor it covers two cells, and has no cell of the sides but halves
        CHECK.due("cells by their middles", w.overlap(0, 3, 0, 1, 1), 0);
        Check.bit(w, "0,0:0;2,0:0;5,1:0;-3,1:0", 5, -1, 0);
        CHECK.due("overlap", w.overlap(0, 4, 0, 1, 1), 2);
        CHECK.due("too much", w.score(0, 4, 4, 0), -3);
        CHECK.due("too much", w.turned(0, 4, 4, 0, 0), BELOW);
        w.tolerance(1);
        CHECK.due("too much", w.score(0, 4, 4, 0), -3);
        w.tolerance(2);
        CHECK.due("enough", w.score(0, 4, 4, 0), 27);
        CHECK.due("enough", w.score(4, 0, 0, 4), 27);
    }
}
