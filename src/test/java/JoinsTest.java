/** Promises 14 to 18. */
public final class JoinsTest {
    private static final Check CHECK = new Check("JoinsTest");

    public static void main(String[] args) {
        joining();
        groups();
        clashInOneGroup();
        shortestWays();
        clashOfOverlap();
        clashOnTheWall();
        clashBesideTheWall();
        full();
        bestNow();
        undoing();
        CHECK.end();
    }

    private static void dueClash(FrescoWall w, int kind, int first, int second, int... joins) {
        CHECK.due("clash kind", w.clash(0), kind);
        CHECK.due("clash size", w.clash(1), joins.length);
        CHECK.due("clash first", w.clash(2), first);
        CHECK.due("clash second", w.clash(3), second);
        for (int i = 0; i < joins.length; i++) {
            CHECK.due("clash join " + i, w.clash(10 + i), joins[i]);
        }
        CHECK.due("clash behind", w.clash(10 + joins.length), -1);
        CHECK.due("clash 4", w.clash(4), -1);
        CHECK.due("clash 9", w.clash(9), -1);
        CHECK.due("clash -1", w.clash(-1), -1);
        CHECK.due("clash", w.clash(Integer.MAX_VALUE), -1);
        CHECK.due("clash", w.clash(Integer.MIN_VALUE), -1);
    }

    private static void joining() {
        FrescoWall w = Check.squares(3);
        Check.bit(w, Check.box(2, 2, "0000"), 5, -1, 0);
        CHECK.due("join", w.join(0, 1, 1, 3), 0);
        CHECK.due("taken", w.join(0, 1, 2, 3), -3);
        CHECK.due("taken", w.join(2, 1, 1, 3), -3);
        CHECK.due("no fit", w.join(0, 0, 3, 0), -3);
        CHECK.due("one bit", w.join(0, 0, 0, 2), -2);
        CHECK.due("no bit", w.join(0, 0, 4, 0), -1);
        CHECK.due("no edge", w.join(0, 4, 1, 0), -1);
        CHECK.due("no edge, one bit", w.join(0, 4, 0, 0), -1);
        CHECK.due("join", w.join(2, 0, 1, 2), 1);
        int[] due = {2, 0, 1, 2, 0};
        for (int what = 0; what < 5; what++) {
            CHECK.due("joined " + what, w.joined(1, what), due[what]);
        }
        CHECK.due("joined", w.joined(1, 5), -1);
        CHECK.due("joined", w.joined(1, -1), -1);
        CHECK.due("joined", w.joined(2, 0), -1);
        CHECK.due("joined", w.joined(-1, 0), -1);
        CHECK.due("no clash", w.clash(0), -1);
        CHECK.due("no clash", w.clash(1), -1);
        CHECK.due("joins", w.count(1), 2);
        CHECK.due("joins in all", w.count(8), 2);
        CHECK.due("groups", w.count(2), 2);
    }

    private static void groups() {
        FrescoWall w = Check.squares(5);
        w.join(3, 1, 1, 3);
        w.join(1, 1, 4, 3);
        CHECK.due("least", w.group(4, 0), 1);
        CHECK.due("size", w.group(4, 1), 3);
        CHECK.due("joins", w.group(4, 2), 2);
        CHECK.due("alone", w.group(2, 0), 2);
        CHECK.due("alone", w.group(2, 1), 1);
        CHECK.due("alone", w.group(2, 2), 0);
        CHECK.due("what", w.group(2, 3), -1);
        CHECK.due("what", w.group(2, -1), -1);
        CHECK.due("bit", w.group(5, 0), -1);
        CHECK.due("groups", w.count(2), 3);
        CHECK.due("undo", w.undo(0), 3);
        CHECK.due("least", w.group(1, 0), 1);
        CHECK.due("size", w.group(1, 1), 2);
        CHECK.due("groups", w.count(2), 4);
    }

    private static void clashInOneGroup() {
        FrescoWall w = Check.squares(3);
        w.join(0, 1, 1, 3);
        w.join(1, 1, 2, 3);
        // a ring of two that isn't one
        CHECK.due("otherwise", w.join(2, 1, 0, 3), -11);
        dueClash(w, 1, 2, 0, 1, 0);
        CHECK.due("otherwise, the other way", w.join(0, 3, 2, 1), -11);
        dueClash(w, 1, 0, 2, 0, 1);
        // a square of four closes
        FrescoWall v = Check.squares(4);
        v.join(0, 1, 1, 3);
        v.join(1, 2, 2, 0);
        v.join(2, 3, 3, 1);
        CHECK.due("closes", v.join(3, 0, 0, 2), 3);
        CHECK.due("joins in it", v.group(0, 2), 4);
        CHECK.due("still one", v.undo(0), 4);
    }

    private static void shortestWays() {
        FrescoWall v = Check.squares(4);
        v.join(0, 1, 1, 3);
        v.join(3, 0, 0, 2);
        v.join(1, 2, 2, 0);
        v.join(2, 3, 3, 1);
        // 0 and 2 are across: two ways of two joins, 0 2 and 1 3
        CHECK.due("otherwise", v.join(0, 0, 2, 2), -11);
        dueClash(v, 1, 0, 2, 0, 2);
        // from 2 to 0: 2 0 and 3 1
        CHECK.due("otherwise", v.join(2, 2, 0, 0), -11);
        dueClash(v, 1, 2, 0, 2, 0);
        // from 1 to 3: 0 1 and 2 3
        CHECK.due("otherwise", v.join(1, 1, 3, 3), -11);
        dueClash(v, 1, 1, 3, 0, 1);
        v.undo(0);
        CHECK.due("otherwise", v.join(1, 1, 3, 3), -11);
        dueClash(v, 1, 1, 3, 2, 3);
    }

    private static void clashOfOverlap() {
        // two rows of two, that are laid upon one another
        FrescoWall w = Check.squares(4);
        w.join(1, 1, 0, 3);
        w.join(3, 1, 2, 3);
        // 0 lies right of 1, 2 right of 3: 3's right neighbour is on 0 if 3 sits on 1's place
        CHECK.due("overlap", w.join(1, 0, 3, 0), 2);
        FrescoWall v = Check.squares(5);
        v.join(0, 1, 1, 3);
        v.join(2, 1, 3, 3);
        v.join(3, 1, 4, 3);
        // 4's upper side against 0's lower side turned: 4 under 0, 3 and 2 to its right or left
        CHECK.due("free", v.join(0, 0, 4, 2), 3);
        FrescoWall u = Check.squares(6);
        // a hook: 0 right of it 1, above 1 is 2; and 5 with 4 above it
        u.join(0, 1, 1, 3);
        u.join(1, 2, 2, 0);
        u.join(5, 2, 4, 0);
        u.join(4, 1, 3, 3);
        // 5 on 0's upper side: 4 is above it, 3 right of 4; 2 is at (1,1), 5 at (0,1): free
        CHECK.due("free", u.join(0, 2, 5, 0), 4);
        FrescoWall t = Check.squares(6);
        t.join(0, 1, 1, 3);
        t.join(1, 2, 2, 0);
        t.join(5, 1, 4, 3);
        t.join(4, 1, 3, 3);
        // 5 on 0's upper side at (0,1): 4 at (1,1), where 2 is; 3 at (2,1)
        CHECK.due("overlap", t.join(0, 2, 5, 0), -12);
        dueClash(t, 2, 2, 4, 1, 0, 2);
        CHECK.due("overlap, the other way", t.join(5, 0, 0, 2), -12);
        dueClash(t, 2, 4, 2, 2, 0, 1);
        t.tolerance(1);
        CHECK.due("tolerated", t.join(0, 2, 5, 0), 4);
    }

    private static void clashOnTheWall() {
        FrescoWall w = Check.squares(5);
        w.join(1, 1, 0, 3);
        w.join(3, 1, 2, 3);
        w.put(0, 0, 10, 10);
        w.word(2, 0, 30, 30);
        w.word(3, 0, 29, 30);
        CHECK.due("otherwise", w.join(0, 1, 3, 3), -13);
        dueClash(w, 3, 0, 2, 1);
        CHECK.due("otherwise", w.join(2, 1, 1, 3), -13);
        dueClash(w, 3, 2, 0, 0);
        w.unsay(2);
        CHECK.due("otherwise", w.join(0, 1, 3, 3), -13);
        dueClash(w, 3, 0, 3);
        w.put(1, 0, 27, 30);
        CHECK.due("just so", w.join(0, 1, 3, 3), 2);
        CHECK.due("group", w.group(2, 1), 4);
        CHECK.due("put parts stay", w.undo(2), 4);
        CHECK.due("put part", w.placed(0, 3), 0);
        CHECK.due("put part", w.placed(0, 1), 28);
        CHECK.due("word's part", w.placed(2, 3), 1);
    }

    private static void clashBesideTheWall() {
        FrescoWall w = Check.squares(6);
        w.join(1, 1, 0, 3);
        w.put(5, 0, 12, 10);
        w.put(3, 0, 11, 10);
        w.word(4, 0, 10, 10);
        // 0 would be right of 4, where 3 is
        CHECK.due("taken", w.join(4, 1, 1, 3), -15);
        dueClash(w, 5, 0, 5);
        CHECK.due("taken", w.join(1, 3, 4, 1), -15);
        dueClash(w, 5, 0, 5);
        w.lift(5);
        CHECK.due("taken still", w.join(1, 3, 4, 1), -15);
        dueClash(w, 5, 1, 3);
        w.lift(3);
        CHECK.due("free", w.join(1, 3, 4, 1), 1);
        CHECK.due("placed", w.placed(0, 1), 12);
        CHECK.due("placed", w.placed(1, 1), 11);
        CHECK.due("stands by the word", w.placed(0, 3), 1);
        CHECK.due("on the wall", w.count(3), 3);
        // the join's first bit may be the one that stands
        CHECK.due("joined to the wall", w.join(0, 1, 2, 3), 2);
        CHECK.due("placed", w.placed(2, 1), 13);
    }

    private static void full() {
        FrescoWall w = Check.squares(4);
        for (int k = 0; k < 59; k++) {
            CHECK.due("join", w.join(0, 1, 1, 3), k);
            CHECK.due("undo", w.undo(k), 2);
        }
        CHECK.due("the last one", w.join(0, 1, 1, 3), 59);
        CHECK.due("STATE ahead of FULL", w.join(0, 1, 2, 3), -3);
        CHECK.due("FULL ahead of a CLASH", w.join(0, 3, 1, 1), -4);
        CHECK.due("FULL", w.join(2, 1, 3, 3), -4);
        CHECK.due("no clash", w.clash(0), -1);
        CHECK.due("joins", w.count(1), 1);
        CHECK.due("joins in all", w.count(8), 60);
        CHECK.due("undone", w.undo(58), -1);
        CHECK.due("undone", w.joined(58, 0), -1);
    }

    private static void bestNow() {
        FrescoWall w = new FrescoWall();
        Check.bit(w, Check.box(2, 1, "5678"), 5, -1, 0);
        Check.bit(w, Check.box(2, 1, "5000"), 5, -1, 0);
        w.join(0, 0, 1, 0);
        CHECK.due("best", w.joined(0, 4), 1);
        Check.bit(w, Check.box(2, 1, "5000"), 5, -1, 0);
        CHECK.due("a rival came", w.joined(0, 4), 0);
        FrescoWall v = new FrescoWall();
        v.tolerance(2);
        Check.bit(v, "0,0:0;4,0:0;4,2:0;3,2:0;3,1:9;1,1:0;1,2:0;0,2:0", 5, -1, 0);
        Check.bit(v, "0,0:9;2,0:0;5,1:0;-3,1:0", 5, -1, 0);
        CHECK.due("join with tolerance", v.join(0, 4, 1, 0), 0);
        CHECK.due("best", v.joined(0, 4), 1);
        v.tolerance(1);
        CHECK.due("no fit any more", v.joined(0, 4), 0);
        CHECK.due("still joined", v.group(0, 1), 2);
        CHECK.due("still joined", v.joined(0, 2), 1);
    }

    private static void undoing() {
        FrescoWall w = Check.squares(4);
        w.join(0, 1, 1, 3);
        w.join(1, 1, 2, 3);
        w.join(2, 1, 3, 3);
        w.put(2, 0, 0, 0);
        CHECK.due("on the wall", w.count(3), 4);
        CHECK.due("undo", w.undo(1), 4);
        CHECK.due("on the wall", w.count(3), 2);
        CHECK.due("off", w.placed(0, 0), -100000);
        CHECK.due("on", w.placed(3, 1), 1);
        CHECK.due("undo", w.undo(1), -1);
        CHECK.due("undo", w.undo(3), -1);
        CHECK.due("undo", w.undo(-1), -1);
        CHECK.due("again", w.join(1, 1, 2, 3), 3);
        CHECK.due("on the wall", w.count(3), 4);
        CHECK.due("on", w.placed(0, 1), -2);
    }
}
