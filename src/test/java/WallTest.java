/** Promises 19 to 26. */
public final class WallTest {
    private static final Check CHECK = new Check("WallTest");
    private static final int BELOW = -100000;

    public static void main(String[] args) {
        words();
        wordsThatDiffer();
        puts();
        overlaps();
        lifting();
        unsaying();
        cells();
        proofs();
        proofsOfSeveral();
        CHECK.end();
    }

    private static void duePlaced(FrescoWall w, int bit, int t, int x, int y, int by) {
        CHECK.due("t of " + bit, w.placed(bit, 0), t);
        CHECK.due("x of " + bit, w.placed(bit, 1), x);
        CHECK.due("y of " + bit, w.placed(bit, 2), y);
        CHECK.due("by of " + bit, w.placed(bit, 3), by);
    }

    private static void words() {
        FrescoWall w = Check.squares(3);
        CHECK.due("word", w.word(3, 0, 0, 0), -1);
        CHECK.due("word", w.word(-1, 0, 0, 0), -1);
        CHECK.due("word", w.word(3, 9, 0, 0), -1);
        CHECK.due("word", w.word(0, 4, 0, 0), -2);
        CHECK.due("word", w.word(0, -1, 0, 0), -2);
        CHECK.due("word", w.word(0, 0, 501, 0), -2);
        CHECK.due("word", w.word(0, 0, 0, -501), -2);
        CHECK.due("alone", w.word(0, 0, 500, -500), 1);
        duePlaced(w, 0, 0, 500, -500, 2);
        CHECK.due("what", w.placed(0, 4), BELOW);
        CHECK.due("what", w.placed(0, -1), BELOW);
        CHECK.due("off", w.placed(1, 0), BELOW);
        CHECK.due("off", w.placed(1, 3), BELOW);
        CHECK.due("no bit", w.placed(3, 0), BELOW);
        CHECK.due("elsewhere", w.word(0, 1, 10, 10), 1);
        duePlaced(w, 0, 1, 10, 10, 2);
        CHECK.due("words", w.count(4), 1);
        // bit 0 turned by a quarter: its right edge is above
        w.join(0, 1, 1, 3);
        duePlaced(w, 1, 1, 10, 11, 1);
        w.join(1, 1, 2, 2);
        // bit 2 is turned by a quarter against bit 1
        CHECK.due("t", w.placed(2, 0), 2);
        CHECK.due("on the wall", w.count(3), 3);
        CHECK.due("a second word", w.word(1, 1, 10, 11), 3);
        duePlaced(w, 1, 1, 10, 11, 2);
        CHECK.due("words", w.count(4), 2);
    }

    private static void wordsThatDiffer() {
        FrescoWall w = Check.squares(4);
        w.join(0, 1, 1, 3);
        w.join(1, 1, 2, 3);
        w.word(2, 0, 12, 10);
        w.word(1, 0, 11, 10);
        CHECK.due("otherwise", w.word(0, 1, 10, 10), -14);
        CHECK.due("kind", w.clash(0), 4);
        CHECK.due("size", w.clash(1), 1);
        CHECK.due("first", w.clash(2), 1);
        CHECK.due("second", w.clash(3), 0);
        CHECK.due("join", w.clash(10), 0);
        CHECK.due("otherwise", w.word(1, 0, 11, 11), -14);
        CHECK.due("first", w.clash(2), 2);
        CHECK.due("second", w.clash(3), 1);
        CHECK.due("join", w.clash(10), 1);
        duePlaced(w, 1, 0, 11, 10, 2);
        w.unsay(1);
        CHECK.due("otherwise", w.word(0, 0, 10, 11), -14);
        CHECK.due("size", w.clash(1), 2);
        CHECK.due("first", w.clash(2), 2);
        CHECK.due("join", w.clash(10), 1);
        CHECK.due("join", w.clash(11), 0);
        CHECK.due("its own word may change", w.word(2, 3, 0, 0), 3);
        CHECK.due("t", w.placed(0, 0), 3);
        // three quarters: what was right is below
        duePlaced(w, 0, 3, 0, 2, 1);
    }

    private static void puts() {
        FrescoWall w = Check.squares(3);
        w.join(0, 1, 1, 3);
        CHECK.due("put", w.put(3, 0, 0, 0), -1);
        CHECK.due("put", w.put(0, 4, 0, 0), -2);
        CHECK.due("put", w.put(0, 0, -501, 0), -2);
        CHECK.due("put", w.put(0, 0, 5, 5), 2);
        duePlaced(w, 1, 0, 6, 5, 0);
        CHECK.due("again, on its own place", w.put(1, 0, 5, 5), 2);
        duePlaced(w, 0, 0, 4, 5, 0);
        // the group was put by 1 then, not by 0
        w.undo(0);
        CHECK.due("off", w.placed(0, 0), BELOW);
        duePlaced(w, 1, 0, 5, 5, 0);
        w.join(0, 1, 1, 3);
        CHECK.due("a word in place of it", w.word(0, 0, 8, 8), 2);
        CHECK.due("put", w.put(1, 0, 0, 0), -3);
        CHECK.due("BAD ahead of STATE", w.put(1, 0, 0, 501), -2);
        w.undo(1);
        CHECK.due("no longer put", w.placed(1, 0), BELOW);
        CHECK.due("on the wall", w.count(3), 1);
    }

    private static void overlaps() {
        FrescoWall w = Check.squares(5);
        w.join(0, 1, 1, 3);
        w.join(3, 1, 4, 3);
        w.put(3, 0, 5, 5);
        CHECK.due("overlap", w.put(1, 0, 5, 5), -15);
        CHECK.due("kind", w.clash(0), 5);
        CHECK.due("size", w.clash(1), 0);
        CHECK.due("first", w.clash(2), 1);
        CHECK.due("second", w.clash(3), 3);
        CHECK.due("no join", w.clash(10), -1);
        CHECK.due("overlap", w.word(0, 0, 5, 5), -15);
        CHECK.due("first", w.clash(2), 0);
        CHECK.due("second", w.clash(3), 3);
        CHECK.due("off still", w.placed(0, 0), BELOW);
        CHECK.due("free", w.word(0, 2, 9, 6), 2);
        CHECK.due("overlap", w.word(0, 2, 7, 6), -15);
        CHECK.due("first", w.clash(2), 0);
        CHECK.due("second", w.clash(3), 4);
        duePlaced(w, 0, 2, 9, 6, 2);
        CHECK.due("words", w.count(4), 1);
        w.tolerance(1);
        CHECK.due("tolerated", w.word(0, 2, 7, 6), 2);
        w.tolerance(0);
        CHECK.due("not any more, where it is", w.word(0, 2, 7, 6), -15);
        CHECK.due("its own group is not in its way", w.put(3, 0, 4, 5), -15);
        CHECK.due("second", w.clash(3), 1);
        CHECK.due("apart", w.put(3, 0, 0, 0), 2);
    }

    private static void lifting() {
        FrescoWall w = Check.squares(3);
        w.join(0, 1, 1, 3);
        CHECK.due("off", w.lift(0), -3);
        CHECK.due("no bit", w.lift(3), -1);
        w.put(0, 0, 0, 0);
        CHECK.due("lift", w.lift(1), 2);
        CHECK.due("off", w.count(3), 0);
        CHECK.due("lift", w.lift(1), -3);
        w.word(0, 0, 0, 0);
        CHECK.due("word", w.lift(1), -3);
        CHECK.due("word", w.lift(0), -3);
        w.unsay(0);
        CHECK.due("lift", w.lift(1), 2);
        // two that were put are joined, and go off as one
        w.put(0, 0, 0, 0);
        w.put(2, 0, 2, 0);
        CHECK.due("join", w.join(1, 1, 2, 3), 1);
        CHECK.due("lift", w.lift(0), 3);
        CHECK.due("off", w.count(3), 0);
    }

    private static void unsaying() {
        FrescoWall w = Check.squares(2);
        w.join(0, 1, 1, 3);
        CHECK.due("none", w.unsay(0), -3);
        CHECK.due("no bit", w.unsay(2), -1);
        w.word(0, 0, 0, 0);
        w.word(1, 0, 1, 0);
        CHECK.due("unsay", w.unsay(0), 1);
        duePlaced(w, 0, 0, 0, 0, 1);
        CHECK.due("none", w.unsay(0), -3);
        CHECK.due("unsay", w.unsay(1), 1);
        duePlaced(w, 0, 0, 0, 0, 0);
        duePlaced(w, 1, 0, 1, 0, 0);
        CHECK.due("words", w.count(4), 0);
        w.undo(0);
        CHECK.due("0 was not put", w.placed(0, 0), BELOW);
        duePlaced(w, 1, 0, 1, 0, 0);
    }

    private static void cells() {
        FrescoWall w = new FrescoWall();
        Check.bit(w, Check.box(2, 1, "0000"), 5, -1, 0);
        Check.bit(w, Check.box(2, 1, "0000"), 5, -1, 0);
        w.tolerance(1);
        w.put(1, 1, 10, 10);
        CHECK.due("at", w.at(9, 10), 1);
        CHECK.due("at", w.at(9, 11), 1);
        CHECK.due("at", w.at(9, 12), -1);
        CHECK.due("at", w.at(10, 10), -1);
        CHECK.due("at", w.at(8, 10), -1);
        w.put(0, 0, 9, 11);
        CHECK.due("the least", w.at(9, 11), 0);
        CHECK.due("at", w.at(9, 10), 1);
        CHECK.due("at", w.at(10, 11), 0);
        Check.bit(w, "-20,-20:1;20,-20:2;20,20:3;-20,20:4", 5, 0, 0);
        w.put(2, 0, 100, 100);
        for (int x = 0; x < 200; x++) {
            boolean on = x >= 80 && x < 120;
            CHECK.due("at " + x, w.at(x, 80), on ? 2 : -1);
            CHECK.due("at " + x, w.at(119, x), on ? 2 : -1);
        }
        CHECK.due("at", w.at(Integer.MAX_VALUE, Integer.MIN_VALUE), -1);
        CHECK.due("at", w.at(Integer.MIN_VALUE, Integer.MAX_VALUE), -1);
    }

    /** A row of bits, each of which fits the next one best by a colour of its own. */
    private static FrescoWall row(int n) {
        FrescoWall w = new FrescoWall();
        for (int k = 0; k < n; k++) {
            // lengths differ above and below, so that just sides fit
            Check.bit(w, Check.box(k + 2, 1, "0" + (k + 1) + "0" + k), 5, -1, 0);
        }
        return w;
    }

    private static void proofs() {
        FrescoWall w = row(5);
        for (int k = 3; k >= 0; k--) {
            CHECK.due("join", w.join(k, 1, k + 1, 3), 3 - k);
        }
        CHECK.due("not proved", w.proof(0), -3);
        CHECK.due("no bit", w.proof(5), -1);
        CHECK.due("none", w.count(5), 0);
        w.word(4, 0, 50, 0);
        CHECK.due("proof", w.proof(4), 0);
        CHECK.due("proof", w.proof(0), 4);
        for (int i = 0; i < 4; i++) {
            CHECK.due("reason " + i, w.reason(0, i), i);
        }
        CHECK.due("reason", w.reason(0, 4), -1);
        CHECK.due("reason", w.reason(0, -1), -1);
        CHECK.due("reason", w.reason(5, 0), -1);
        CHECK.due("reason", w.reason(4, 0), -1);
        CHECK.due("proved", w.count(5), 5);
        // colours 1 and 2 are alike: the joins about them are no longer the best
        w.likeness(1, 2, 9);
        CHECK.due("proved", w.count(5), 3);
        CHECK.due("proof", w.proof(1), -3);
        CHECK.due("reason", w.reason(1, 0), -1);
        CHECK.due("proof", w.proof(2), 2);
        // a word at the other end leads to none but itself
        w.unsay(4);
        CHECK.due("proved", w.count(5), 0);
        w.word(0, 0, w.placed(0, 1), w.placed(0, 2));
        CHECK.due("proved", w.count(5), 1);
    }

    private static void proofsOfSeveral() {
        FrescoWall w = row(5);
        for (int k = 0; k < 4; k++) {
            w.join(k, 1, k + 1, 3);
        }
        w.word(4, 0, 50, 0);
        w.word(0, 0, w.placed(0, 1), w.placed(0, 2));
        CHECK.due("as near: the least bit", w.proof(2), 2);
        CHECK.due("reason", w.reason(2, 0), 0);
        CHECK.due("reason", w.reason(2, 1), 1);
        CHECK.due("nearer", w.proof(3), 1);
        CHECK.due("reason", w.reason(3, 0), 3);
        w.undo(3);
        CHECK.due("proof", w.proof(3), 3);
        CHECK.due("proof", w.proof(4), 0);
    }
}
