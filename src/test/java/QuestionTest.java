/** Promises 32 and 33. */
public final class QuestionTest {
    private static final Check CHECK = new Check("QuestionTest");

    public static void main(String[] args) {
        faults();
        letters();
        logic();
        deep();
        latest();
        CHECK.end();
    }

    private static FrescoWall some() {
        FrescoWall w = new FrescoWall();
        Check.bit(w, Check.box(2, 1, "1234") + "|0,0=1", 1, -1, 0);
        Check.bit(w, Check.box(2, 1, "1567"), 5, 0, 0);
        Check.bit(w, "0,0:0;20,0:0;0,20:0", 99, 3, 9);
        return w;
    }

    private static void fault(String text, int place) {
        FrescoWall w = some();
        CHECK.due("fault of " + text, Check.ask(w, text), -10 - place);
        CHECK.due("tape", w.count(7), 0);
        CHECK.due("asked", w.asked(0), -1);
    }

    private static void faults() {
        fault("", 0);
        fault("x", 0);
        fault("&", 0);
        fault("T=1", 0);
        fault("t", 1);
        fault("t!", 1);
        fault("t=", 2);
        fault("t=x", 2);
        fault("t=-1", 2);
        fault("t=01", 3);
        fault("t=00", 3);
        fault("t=1234", 5);
        fault("t=1 ", 3);
        fault("t=1&", 4);
        fault("t=1|", 4);
        fault("t=1&&", 4);
        fault("t=1!", 3);
        fault("t=1(", 3);
        fault("!", 1);
        fault("!!", 2);
        fault("(", 1);
        fault("()", 1);
        fault("(t=1", 4);
        fault("(t=1))", 5);
        fault("t=1)", 3);
        fault("(t=1)t", 5);
        fault("!|", 1);
        fault("t=1" + (char) 178, 3);
    }

    private static void so(FrescoWall w, String text, int... bits) {
        CHECK.due("ask " + text, Check.ask(w, text), bits.length);
        for (int i = 0; i < bits.length; i++) {
            CHECK.due("asked of " + text, w.asked(i), bits[i]);
        }
        CHECK.due("asked of " + text, w.asked(bits.length), -1);
        CHECK.due("asked of " + text, w.asked(-1), -1);
    }

    private static void letters() {
        FrescoWall w = some();
        so(w, "t<5", 0);
        so(w, "t=5", 1);
        so(w, "t>5", 2);
        so(w, "t>999");
        so(w, "t<999", 0, 1, 2);
        so(w, "s=9", 0);
        so(w, "s=0", 1);
        so(w, "s>0&s<9", 2);
        so(w, "p=9", 2);
        so(w, "e=3", 2);
        so(w, "e=4", 0, 1);
        so(w, "n=2", 0, 1);
        so(w, "n=190", 2);
        so(w, "c=1", 0);
        so(w, "c=0", 1, 2);
        so(w, "j=0", 0, 1, 2);
        so(w, "w=0&v=0&b=99&g=1", 0, 1, 2);
        w.join(0, 0, 1, 0);
        w.word(0, 0, 0, 0);
        w.enter(1, 7, 999);
        w.enter(2, 3, 0);
        w.enter(2, -1, 5);
        so(w, "j=1", 0, 1);
        so(w, "g=2", 0, 1);
        so(w, "g=1", 2);
        so(w, "w=1", 0, 1);
        so(w, "v=1", 0, 1);
        so(w, "b=7", 1);
        so(w, "b=99", 0, 2);
        w.likeness(1, 1, 0);
        so(w, "v=1", 0);
        so(w, "v=0", 1, 2);
    }

    private static void logic() {
        FrescoWall w = some();
        so(w, "t=1|t=5&t=99", 0);
        so(w, "(t=1|t=5)&t>1", 1);
        so(w, "t=1&t=5|t=99", 2);
        so(w, "!t=1", 1, 2);
        so(w, "!t=1&t=5", 1);
        so(w, "!(t=1|t=5)", 2);
        so(w, "!!t=1", 0);
        so(w, "!(!t=1)", 0);
        so(w, "!t=1|!t=5", 0, 1, 2);
        so(w, "t=1&!(t=1)|t=5&(t=5)", 1);
        so(w, "((t=1))|(!(t<99))", 0, 2);
        so(new FrescoWall(), "t=0|!t=0");
    }

    private static void deep() {
        FrescoWall w = some();
        so(w, "(".repeat(118) + "t=1" + ")".repeat(118), 0);
        so(w, "!".repeat(237) + "t=1", 1, 2);
        so(w, "!(".repeat(79) + "t=1" + ")".repeat(79), 1, 2);
        CHECK.due("open", Check.ask(w, "(".repeat(240)), -250);
        CHECK.due("open", Check.ask(w, "!".repeat(240)), -250);
    }

    private static void latest() {
        FrescoWall w = some();
        so(w, "t=5", 1);
        CHECK.due("fault", Check.ask(w, "t=5&"), -14);
        CHECK.due("the latest that was read", w.asked(0), 1);
        CHECK.due("full", w.asked(1), -1);
        w.enter(1, 2, 3);
        so(w, "b=2", 1);
        w.enter(1, 3, 3);
        CHECK.due("as it was asked", w.asked(0), 1);
    }
}
