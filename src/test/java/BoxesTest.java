/** Promises 34 to 38. */
public final class BoxesTest {
    private static final Check CHECK = new Check("BoxesTest");

    public static void main(String[] args) {
        entries();
        full();
        skills();
        sharing();
        ties();
        counts();
        CHECK.end();
    }

    private static FrescoWall bits(int... plasters) {
        FrescoWall w = new FrescoWall();
        for (int plaster : plasters) {
            Check.bit(w, Check.box(1, 1, "0000"), 5, -1, plaster);
        }
        return w;
    }

    private static void entries() {
        FrescoWall w = bits(0, 0);
        CHECK.due("none", w.box(0, 999, 0), -5);
        CHECK.due("too many", w.box(0, 999, 1), -1);
        CHECK.due("no bit", w.enter(2, 0, 0), -1);
        CHECK.due("no box", w.enter(0, 10, 0), -1);
        CHECK.due("no box", w.enter(0, -2, 0), -1);
        CHECK.due("no box, no day", w.enter(0, 10, 1000), -1);
        CHECK.due("no day", w.enter(0, 0, 1000), -2);
        CHECK.due("no day", w.enter(0, 0, -1), -2);
        CHECK.due("enter", w.enter(0, 9, 10), 1);
        CHECK.due("enter", w.enter(0, 0, 0), 2);
        CHECK.due("enter", w.enter(0, 5, 10), 3);
        CHECK.due("enter", w.enter(0, -1, 20), 4);
        CHECK.due("enter", w.enter(1, 7, 999), 5);
        CHECK.due("ahead of it", w.box(0, 9, 1), -5);
        CHECK.due("that day", w.box(0, 10, 1), 9);
        CHECK.due("entered later, happened ahead", w.box(0, 9, 2), 0);
        CHECK.due("the latest entered of a day", w.box(0, 10, 2), 9);
        CHECK.due("the latest entered of a day", w.box(0, 10, 3), 5);
        CHECK.due("the latest entered of a day", w.box(0, 19, 5), 5);
        CHECK.due("taken out", w.box(0, 20, 4), -5);
        CHECK.due("not known yet", w.box(0, 20, 3), 5);
        CHECK.due("nothing known", w.box(0, 20, 0), -5);
        CHECK.due("another bit", w.box(1, 998, 5), -5);
        CHECK.due("another bit", w.box(1, 999, 5), 7);
        CHECK.due("another bit", w.box(1, 999, 4), -5);
        CHECK.due("too many", w.box(1, 999, 6), -1);
        CHECK.due("too many, no day", w.box(1, 1000, 6), -1);
        CHECK.due("no day", w.box(1, 1000, 5), -2);
        CHECK.due("no day", w.box(1, -1, 5), -2);
        CHECK.due("no such entry", w.box(1, 0, -1), -1);
        CHECK.due("no such entry", w.box(1, 999, Integer.MIN_VALUE), -1);
        CHECK.due("no such entry, no day", w.box(1, -1, -1), -1);
        CHECK.due("no such entry, no day", w.box(1, 1000, -5), -1);
        CHECK.due("no bit, no such entry", w.box(-1, 0, -1), -1);
        CHECK.due("no entries, no day", w.box(1, -1, 0), -2);
        CHECK.due("no entries", w.box(1, 0, 0), -5);
        CHECK.due("no bit", w.box(2, -1, 5), -1);
    }

    private static void full() {
        FrescoWall w = bits(0);
        for (int k = 1; k <= 100; k++) {
            CHECK.due("enter", w.enter(0, k % 10, k), k);
        }
        CHECK.due("full", w.enter(0, 0, 0), -4);
        CHECK.due("NONE ahead of FULL", w.enter(1, 0, 0), -1);
        CHECK.due("BAD ahead of FULL", w.enter(0, 0, 1000), -2);
        CHECK.due("count", w.count(6), 100);
        CHECK.due("box", w.box(0, 57, 100), 7);
    }

    private static void skills() {
        FrescoWall w = new FrescoWall();
        CHECK.due("skill", w.skill(5, 9, 9), 0);
        CHECK.due("skill", w.skill(5, 9, 3), 9);
        CHECK.due("another", w.skill(4, 9, 3), 0);
        CHECK.due("no hand", w.skill(6, 0, 0), -1);
        CHECK.due("no hand", w.skill(-1, 0, 0), -1);
        CHECK.due("no plaster", w.skill(0, 10, 0), -1);
        CHECK.due("no plaster", w.skill(0, -1, 10), -1);
        CHECK.due("n", w.skill(0, 0, 10), -2);
        CHECK.due("n", w.skill(0, 0, -1), -2);
        CHECK.due("unchanged", w.skill(5, 9, 0), 3);
    }

    private static void dueShare(FrescoWall w, int worth, int... boxes) {
        CHECK.due("worth", w.share(-1), worth);
        for (int hand = 0; hand < 6; hand++) {
            CHECK.due("box of " + hand, w.share(hand), boxes[hand]);
        }
    }

    private static void sharing() {
        FrescoWall w = bits(0, 1, 2, 0);
        CHECK.due("no hand", w.share(-2), -100000);
        CHECK.due("no hand", w.share(6), -100000);
        dueShare(w, 0, 0, 1, 2, 3, 4, 5);
        w.enter(0, 9, 0);
        w.enter(1, 8, 0);
        w.enter(2, 8, 0);
        w.enter(3, 9, 0);
        w.skill(5, 0, 3);
        dueShare(w, 6, 0, 1, 2, 3, 4, 9);
        w.skill(5, 1, 4);
        w.skill(5, 2, 4);
        dueShare(w, 8, 0, 1, 2, 3, 4, 8);
        w.skill(2, 1, 4);
        w.skill(2, 2, 3);
        // the two together: 7 and 6, not 8 alone
        dueShare(w, 13, 0, 1, 8, 2, 3, 9);
        w.enter(3, -1, 500);
        dueShare(w, 10, 0, 1, 8, 2, 3, 9);
        w.enter(0, -1, 0);
        dueShare(w, 8, 0, 1, 2, 3, 4, 8);
    }

    private static void ties() {
        FrescoWall w = bits(0, 0);
        for (int hand = 0; hand < 6; hand++) {
            w.skill(hand, 0, 2);
        }
        w.enter(0, 3, 0);
        w.enter(1, 0, 0);
        dueShare(w, 4, 0, 1, 2, 3, 4, 5);
        w.enter(0, 7, 1);
        // one of them must have 7, and the last one it costs least
        dueShare(w, 4, 0, 1, 2, 3, 4, 7);
        w.skill(2, 0, 3);
        dueShare(w, 5, 0, 1, 7, 2, 3, 4);
    }

    private static void counts() {
        FrescoWall w = bits(0, 0, 0);
        w.join(0, 1, 1, 3);
        w.join(1, 1, 2, 3);
        w.undo(0);
        w.word(1, 0, 0, 0);
        w.enter(0, 0, 0);
        w.feed(0, 3);
        int[] due = {3, 1, 2, 2, 1, 1, 1, 3, 2};
        for (int what = 0; what < 9; what++) {
            CHECK.due("count " + what, w.count(what), due[what]);
        }
        CHECK.due("count", w.count(9), -1);
        CHECK.due("count", w.count(Integer.MIN_VALUE), -1);
    }
}
