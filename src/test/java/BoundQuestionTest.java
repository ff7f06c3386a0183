/** Part 7 of the document and promises 32 and 33, sentence by sentence: just inside each bound and just outside it. */
public final class BoundQuestionTest {
    private static final Check CHECK = new Check("BoundQuestionTest");
    private static final String LETTERS = "tspencjgwvb";

    public static void main(String[] args) {
        termsWithOrBetween();
        factorsWithAndBetween();
        notAFactor();
        brackets();
        bracketsAsDeepAsTheTape();
        letters();
        lessLikeMore();
        oneToThreeDigits();
        noNoughtAhead();
        thickness();
        straw();
        plaster();
        edges();
        cells();
        spots();
        joinsAtIt();
        bitsOfItsGroup();
        onTheWall();
        proved();
        itsBox();
        itsBoxNow();
        noBlanks();
        firstWrongByte();
        endsTooEarly();
        emptyTapeBehindAQuestion();
        forHowManyBits();
        askedNone();
        latestThatWasRead();
        asItWasAsked();
        CHECK.end();
    }

    private static void bit(FrescoWall w, int thick) {
        Check.bit(w, Check.box(1, 1, "0000"), thick, -1, 0);
    }

    /** Bits of a THICKNESS of 1, 2, .. */
    private static FrescoWall thick(int n) {
        FrescoWall w = new FrescoWall();
        for (int k = 1; k <= n; k++) {
            bit(w, k);
        }
        return w;
    }

    private static void so(FrescoWall w, String text, int... bits) {
        CHECK.due("ask " + text, Check.ask(w, text), bits.length);
        for (int i = 0; i < bits.length; i++) {
            CHECK.due("asked(" + i + ") of " + text, w.asked(i), bits[i]);
        }
        CHECK.due("asked behind the last of " + text, w.asked(bits.length), -1);
    }

    private static void dueRead(String text, int answer) {
        FrescoWall w = new FrescoWall();
        CHECK.due("ask " + text, Check.ask(w, text), answer);
        CHECK.due("tape", w.count(7), 0);
    }

    private static void dueFault(String text, int place) {
        dueRead(text, -10 - place);
    }

    private static void termsWithOrBetween() {
        CHECK.of("7: TERMS with | between (or)");
        FrescoWall w = thick(4);
        so(w, "t=1", 0);
        so(w, "t=1|t=2", 0, 1);
        so(w, "t=4|t=2|t=1", 0, 1, 3);
        so(w, "t=1|t=1", 0);
        so(w, "t=5|t=6");
        so(w, "t=5|t=3", 2);
        so(w, "t=3|t=5", 2);
        so(w, "t=1|t=2|t=3|t=4", 0, 1, 2, 3);
        dueFault("|", 0);
        dueFault("|t=1", 0);
        dueFault("t=1|", 4);
        dueFault("t=1||t=2", 4);
        dueFault("t=1|&t=2", 4);
    }

    private static void factorsWithAndBetween() {
        CHECK.of("7: TERM: FACTORS with & between (and)");
        FrescoWall w = thick(4);
        so(w, "t>1&t<4", 1, 2);
        so(w, "t>1&t<4&t>2", 2);
        so(w, "t>2&t<2");
        so(w, "t=1&t=1", 0);
        so(w, "t>0&t=5");
        // and ahead of or, on either side
        so(w, "t=1|t>1&t<3", 0, 1);
        so(w, "t>1&t<3|t=1", 0, 1);
        so(w, "t=1&t=2|t=3&t=3", 2);
        so(w, "t=1|t=2&t=3|t=4", 0, 3);
        dueFault("&", 0);
        dueFault("&t=1", 0);
        dueFault("t=1&", 4);
        dueFault("t=1&&t=2", 4);
        dueFault("t=1&|t=2", 4);
        dueFault("t=1t=2", 3);
    }

    private static void notAFactor() {
        CHECK.of("7: FACTOR: ! and a FACTOR (not)");
        FrescoWall w = thick(3);
        so(w, "!t=1", 1, 2);
        so(w, "!!t=1", 0);
        so(w, "!!!t=1", 1, 2);
        // it is of one FACTOR alone
        so(w, "!t=1&t=2", 1);
        so(w, "!t=1|t=1", 0, 1, 2);
        so(w, "t>0&!t=1", 1, 2);
        so(w, "t=1|!t=2", 0, 2);
        so(w, "!(t=1)|t=1", 0, 1, 2);
        so(w, "!(t=1)&t=2", 1);
        so(w, "!(t=1|t=2)", 2);
        so(w, "!(t>1&t<3)", 0, 2);
        so(w, "(!t=1)", 1, 2);
        so(w, "!(!t=1)", 0);
        so(w, "!!(t=1)", 0);
        so(w, "!".repeat(237) + "t=1", 1, 2);
        so(w, "!".repeat(236) + "t=1", 0);
        CHECK.due("a full tape of them", Check.ask(w, "!".repeat(240)), -250);
        dueFault("!", 1);
        dueFault("!!", 2);
        dueFault("!&t=1", 1);
        dueFault("!|t=1", 1);
        dueFault("!)", 1);
        dueFault("!1", 1);
        dueFault("t!=1", 1);
        dueFault("t=!1", 2);
        dueFault("t=1!", 3);
        dueFault("t=1!t=2", 3);
    }

    private static void brackets() {
        CHECK.of("7: FACTOR: or ( QUESTION )");
        FrescoWall w = thick(4);
        so(w, "(t=1)", 0);
        so(w, "((t=1))", 0);
        so(w, "(t=1|t=2)&t>1", 1);
        so(w, "t>1&(t=1|t=2)", 1);
        so(w, "(t=1|t=2)&(t=2|t=3)", 1);
        so(w, "(t=1&t=2)|(t=3)", 2);
        so(w, "(t=1)|(t=2)|t=4", 0, 1, 3);
        so(w, "((t=1|t=2)&t>1|t=4)&t<9", 1, 3);
        so(w, "t=1|(t=2|(t=3&(t>2)))", 0, 1, 2);
        dueFault("(", 1);
        dueFault("()", 1);
        dueFault(")", 0);
        dueFault("(t=1", 4);
        dueFault("(t=1))", 5);
        dueFault("t=1)", 3);
        dueFault("(t=1)(t=2)", 5);
        dueFault("(t=1)t=2", 5);
        dueFault("t=1(t=2)", 3);
        dueFault("(t=1|)", 5);
        dueFault("(t=1&)", 5);
        dueFault("(|t=1)", 1);
        dueFault("((t=1)", 6);
        dueFault("(t=1)&", 6);
        dueFault("(t=1)|", 6);
        dueFault("(t=1)!", 5);
    }

    private static void bracketsAsDeepAsTheTape() {
        CHECK.of("7: FACTOR: or ( QUESTION ), as deep as THE TAPE is long (240 at most)");
        FrescoWall w = thick(3);
        so(w, "(".repeat(118) + "t=1" + ")".repeat(118), 0);
        so(w, "!" + "(".repeat(118) + "t=1" + ")".repeat(118), 1, 2);
        so(w, "!(".repeat(79) + "t=1" + ")".repeat(79), 1, 2);
        so(w, "!(".repeat(78) + "t=1" + ")".repeat(78), 0);
        so(w, "t=3|(".repeat(39) + "t=1" + ")".repeat(39), 0, 2);
        so(w, "t>2&(".repeat(39) + "t>0" + ")".repeat(39), 2);
        so(w, "t=1|".repeat(59) + "t=99", 0);
        so(w, "t>1&".repeat(59) + "t>1", 1, 2);
        CHECK.due("one is open", Check.ask(w, "(".repeat(118) + "t=1" + ")".repeat(117)), -10 - 238);
        CHECK.due("one too many", Check.ask(w, "(".repeat(117) + "t=1" + ")".repeat(118)), -10 - 237);
        CHECK.due("all are open", Check.ask(w, "(".repeat(240)), -250);
        CHECK.due("none is open", Check.ask(w, "t=1" + ")".repeat(237)), -13);
    }

    private static void letters() {
        CHECK.of("7: or a LETTER, one of < = >, a number; LETTERS: t s p e n c j g w v b");
        for (int sign = 0; sign <= 255; sign++) {
            boolean letter = LETTERS.indexOf(sign) >= 0;
            boolean begins = letter || sign == '!' || sign == '(';
            dueFault(String.valueOf((char) sign), begins ? 1 : 0);
            dueRead((char) sign + "=1", letter ? 0 : begins ? -11 : -10);
            dueRead("t=1&" + (char) sign + "<1", letter ? 0 : begins ? -15 : -14);
        }
    }

    private static void lessLikeMore() {
        CHECK.of("7: one of < = >");
        FrescoWall w = thick(5);
        so(w, "t<3", 0, 1);
        so(w, "t=3", 2);
        so(w, "t>3", 3, 4);
        for (char letter : LETTERS.toCharArray()) {
            for (int sign = 0; sign <= 255; sign++) {
                boolean good = sign == '<' || sign == '=' || sign == '>';
                dueFault("" + letter + (char) sign, good ? 2 : 1);
            }
        }
        dueFault("t<=1", 2);
        dueFault("t>=1", 2);
        dueFault("t==1", 2);
        dueFault("t<>1", 2);
        dueFault("=1", 0);
        dueFault("1=t", 0);
        dueFault("tt=1", 1);
    }

    private static void oneToThreeDigits() {
        CHECK.of("7: a number of 1 to 3 digits");
        FrescoWall w = thick(2);
        so(w, "t<1");
        so(w, "t<9", 0, 1);
        so(w, "t<10", 0, 1);
        so(w, "t<99", 0, 1);
        so(w, "t<100", 0, 1);
        so(w, "t<999", 0, 1);
        so(w, "t>0", 0, 1);
        so(w, "t>999");
        dueFault("t=", 2);
        dueFault("t=&t=1", 2);
        dueFault("t=1000", 5);
        dueFault("t=9999", 5);
        dueFault("t=12345", 5);
        dueFault("t=-1", 2);
        dueFault("t=+1", 2);
        dueFault("t=.1", 2);
        dueFault("t=1.0", 3);
        for (int sign = 0; sign <= 255; sign++) {
            boolean digit = sign >= '0' && sign <= '9';
            boolean on = sign == '&' || sign == '|';
            dueRead("t=" + (char) sign, digit ? 0 : -12);
            dueRead("t=1" + (char) sign, digit ? 0 : on ? -14 : -13);
            dueRead("t=12" + (char) sign, digit ? 0 : on ? -15 : -14);
            dueFault("t=123" + (char) sign, on ? 6 : 5);
            dueRead("(t=12" + (char) sign, sign == ')' ? 0 : digit || on ? -16 : -15);
        }
    }

    private static void noNoughtAhead() {
        CHECK.of("7: (no 0 ahead of another)");
        dueRead("t=0", 0);
        dueRead("t=0&t=0", 0);
        dueRead("t=10", 0);
        dueRead("t=100", 0);
        dueRead("t=109", 0);
        dueFault("t=00", 3);
        dueFault("t=01", 3);
        dueFault("t=001", 3);
        dueFault("t=09", 3);
        dueFault("t=000", 3);
    }

    /** What a letter tells of bits, by the numbers at and beside it. */
    private static void dueValue(FrescoWall w, char letter, int bit, int value) {
        for (int n = Math.max(0, value - 1); n <= Math.min(999, value + 1); n++) {
            dueIsIn(w, letter + "<" + n, bit, value < n);
            dueIsIn(w, letter + "=" + n, bit, value == n);
            dueIsIn(w, letter + ">" + n, bit, value > n);
        }
    }

    private static void dueIsIn(FrescoWall w, String text, int bit, boolean due) {
        int n = Check.ask(w, text);
        boolean found = false;
        for (int i = 0; i < n; i++) {
            found |= w.asked(i) == bit;
        }
        CHECK.due(text + " of bit " + bit, found ? 1 : 0, due ? 1 : 0);
    }

    private static void thickness() {
        CHECK.of("7: t THICKNESS");
        FrescoWall w = new FrescoWall();
        int[] all = {1, 2, 50, 98, 99};
        for (int thick : all) {
            bit(w, thick);
        }
        for (int k = 0; k < all.length; k++) {
            dueValue(w, 't', k, all[k]);
        }
    }

    private static void straw() {
        CHECK.of("7: s STRAW (9: none)");
        FrescoWall w = new FrescoWall();
        for (int straw = -1; straw <= 3; straw++) {
            Check.bit(w, Check.box(1, 1, "0000"), 5, straw, 0);
        }
        dueValue(w, 's', 0, 9);
        for (int straw = 0; straw <= 3; straw++) {
            dueValue(w, 's', straw + 1, straw);
        }
        so(w, "s>3", 0);
        so(w, "s<9", 1, 2, 3, 4);
        // a turned bit's STRAW is told as the BIT has it
        w.word(2, 1, 0, 0);
        dueValue(w, 's', 2, 1);
    }

    private static void plaster() {
        CHECK.of("7: p PLASTER");
        FrescoWall w = new FrescoWall();
        for (int plaster = 0; plaster <= 9; plaster++) {
            Check.bit(w, Check.box(1, 1, "0000"), 5, -1, plaster);
        }
        for (int plaster = 0; plaster <= 9; plaster++) {
            dueValue(w, 'p', plaster, plaster);
        }
    }

    private static void edges() {
        CHECK.of("7: e EDGES");
        FrescoWall w = new FrescoWall();
        String[] ring = {"9,0:0", "9,1:0", "9,2:0", "9,3:0", "9,4:0", "9,5:0", "0,5:0"};
        for (int edges = 3; edges <= 8; edges++) {
            StringBuilder text = new StringBuilder("0,0:0");
            for (int k = 0; k < edges - 2; k++) {
                text.append(';').append(ring[k]);
            }
            CHECK.due("bit", Check.bit(w, text.append(";0,5:0").toString(), 5, -1, 0), edges - 3);
        }
        for (int edges = 3; edges <= 8; edges++) {
            dueValue(w, 'e', edges - 3, edges);
        }
    }

    private static void cells() {
        CHECK.of("7: n CELLS");
        FrescoWall w = new FrescoWall();
        Check.bit(w, "0,0:0;1,0:0;0,1:0", 5, -1, 0);
        Check.bit(w, Check.box(1, 1, "0000"), 5, -1, 0);
        Check.bit(w, "-10,-10:0;20,-10:0;20,20:0;-10,20:0", 5, -1, 0);
        Check.bit(w, "-20,-20:0;20,-20:0;20,20:0;-20,20:0", 5, -1, 0);
        Check.bit(w, "-17,-7:0;20,-7:0;20,20:0;-17,20:0", 5, -1, 0);
        int[] due = {0, 1, 900, 1600, 999};
        for (int k = 0; k < due.length; k++) {
            dueValue(w, 'n', k, due[k]);
        }
        so(w, "n>999", 3);
    }

    private static void spots() {
        CHECK.of("7: c SPOTS");
        FrescoWall w = new FrescoWall();
        StringBuilder text = new StringBuilder(Check.box(6, 1, "0000"));
        for (int spots = 0; spots <= 5; spots++) {
            Check.bit(w, text.toString(), 5, -1, 0);
            text.append('|').append(spots).append(",0=7");
        }
        for (int spots = 0; spots <= 5; spots++) {
            dueValue(w, 'c', spots, spots);
        }
    }

    private static void joinsAtIt() {
        CHECK.of("7: j JOINS at it");
        FrescoWall w = Check.squares(5);
        dueValue(w, 'j', 0, 0);
        for (int edge = 0; edge < 4; edge++) {
            CHECK.due("join", edge % 2 == 0 ? w.join(0, edge, edge + 1, 0) : w.join(edge + 1, 0, 0, edge), edge);
            dueValue(w, 'j', 0, edge + 1);
            dueValue(w, 'j', edge + 1, 1);
        }
        so(w, "j=4", 0);
        w.undo(3);
        w.undo(0);
        so(w, "j=2", 0);
        so(w, "j=1", 2, 3);
        so(w, "j=0", 1, 4);
        CHECK.due("again", w.join(0, 0, 1, 0), 4);
        so(w, "j=3", 0);
    }

    private static void bitsOfItsGroup() {
        CHECK.of("7: g BITS of its GROUP");
        FrescoWall w = Check.squares(30);
        so(w, "g>1");
        for (int k = 0; k < 29; k++) {
            w.join(k, 1, k + 1, 3);
            CHECK.due("in it", Check.ask(w, "g=" + (k + 2)), k + 2);
        }
        dueValue(w, 'g', 29, 30);
        w.undo(9);
        CHECK.due("the one", Check.ask(w, "g=10"), 10);
        CHECK.due("its last", w.asked(9), 9);
        CHECK.due("the other", Check.ask(w, "g=20"), 20);
        CHECK.due("its first", w.asked(0), 10);
    }

    private static void onTheWall() {
        CHECK.of("7: w whether on THE WALL (1, 0)");
        FrescoWall w = Check.squares(5);
        w.join(1, 1, 2, 3);
        so(w, "w=0", 0, 1, 2, 3, 4);
        so(w, "w=1");
        w.put(2, 0, 50, 50);
        w.word(4, 0, 90, 90);
        so(w, "w=1", 1, 2, 4);
        so(w, "w=0", 0, 3);
        so(w, "w>0", 1, 2, 4);
        so(w, "w<1", 0, 3);
        so(w, "w>1");
        so(w, "w=2");
        w.lift(1);
        so(w, "w=1", 4);
        w.unsay(4);
        so(w, "w=1", 4);
        w.lift(4);
        so(w, "w=1");
    }

    private static void proved() {
        CHECK.of("7: v whether PROVED (1, 0)");
        FrescoWall w = new FrescoWall();
        for (String colours : new String[] {"0102", "0203", "0304", "0401"}) {
            Check.bit(w, Check.box(1, 2, colours), 5, -1, 0);
        }
        so(w, "v=0", 0, 1, 2, 3);
        // 1's left edge and 2's right one are alike, and so 0's left one and 1's right one: each is best both ways
        w.join(2, 1, 1, 3);
        w.join(1, 1, 0, 3);
        // of the lower and upper edges each is like all others
        w.join(0, 0, 3, 2);
        so(w, "v=1");
        w.put(1, 0, 0, 0);
        so(w, "v=1");
        w.word(2, 0, 0, 0);
        so(w, "v=1", 0, 1, 2);
        so(w, "v=0", 3);
        so(w, "v>0", 0, 1, 2);
        so(w, "v<1", 3);
        so(w, "v>1");
        so(w, "v=2");
        w.undo(1);
        so(w, "v=1", 1, 2);
        w.unsay(2);
        so(w, "v=1");
        so(w, "v=0", 0, 1, 2, 3);
    }

    private static void itsBox() {
        CHECK.of("7: b its BOX (99: none)");
        FrescoWall w = thick(12);
        for (int box = 0; box <= 9; box++) {
            w.enter(box, box, 0);
        }
        w.enter(11, 4, 0);
        w.enter(11, -1, 0);
        for (int box = 0; box <= 9; box++) {
            so(w, "b=" + box, box);
        }
        so(w, "b=99", 10, 11);
        so(w, "b>9", 10, 11);
        so(w, "b<1", 0);
        so(w, "b>98", 10, 11);
        so(w, "b=98");
        so(w, "b>99");
        so(w, "b=100");
    }

    private static void itsBoxNow() {
        CHECK.of("7: b its BOX (now); 8: Now: DAY 999, all ENTRIES");
        FrescoWall w = thick(1);
        w.enter(0, 3, 998);
        so(w, "b=3", 0);
        w.enter(0, 5, 999);
        so(w, "b=5", 0);
        w.enter(0, 7, 998);
        so(w, "b=5", 0);
        w.enter(0, 8, 999);
        so(w, "b=8", 0);
        w.enter(0, -1, 999);
        so(w, "b=99", 0);
        for (int k = 5; k < 99; k++) {
            w.enter(0, 1, 0);
        }
        so(w, "b=99", 0);
        CHECK.due("the hundredth", w.enter(0, 2, 999), 100);
        so(w, "b=2", 0);
    }

    private static void noBlanks() {
        CHECK.of("7: No blanks. FAULT likewise");
        String text = "!(t=12|s<9)&b>0";
        for (int k = 0; k <= text.length(); k++) {
            for (char blank : new char[] {' ', '\t', '\n', 0, 160}) {
                dueFault(text.substring(0, k) + blank + text.substring(k), k);
            }
        }
        dueRead(text, 0);
    }

    private static void firstWrongByte() {
        CHECK.of("7: FAULT likewise: the first byte with which it can't go on");
        String text = "!(t=12|s<9)&b>0";
        for (int k = 0; k < text.length(); k++) {
            dueFault(text.substring(0, k) + "x" + text.substring(k + 1), k);
            dueFault(text.substring(0, k) + (char) (text.charAt(k) + 128) + text.substring(k + 1), k);
            dueFault(text.substring(0, k) + "x" + text.substring(k + 1) + ")))", k);
        }
        dueFault(text + "x", 15);
        dueFault(text + ")", 15);
        dueFault("t=1".repeat(80), 3);
        dueFault("t=1|".repeat(59) + "t=1x", 239);
        dueFault("t=1|".repeat(59) + "t=x1", 238);
    }

    private static void endsTooEarly() {
        CHECK.of("7: FAULT likewise: the size of THE TAPE, if it ends too early");
        String text = "!(t=12|s<9)&b>0";
        // whole ones are up to the bracket's end, and the last
        for (int k = 0; k <= text.length(); k++) {
            dueRead(text.substring(0, k), k == 11 || k == 15 ? 0 : -10 - k);
        }
        dueFault("t=1|".repeat(60), 240);
        dueFault("t=1&".repeat(59) + "t=", 238);
        dueFault("t=1&".repeat(59) + "!t=1".substring(0, 3), 239);
    }

    private static void emptyTapeBehindAQuestion() {
        CHECK.of("Promise 32: THE TAPE, which is empty then (by a FAULT, too), is a QUESTION");
        for (String text : new String[] {"t=1", "t=1|", "x", "", "t=1".repeat(80)}) {
            FrescoWall w = thick(2);
            Check.ask(w, text);
            CHECK.due("tape behind " + text, w.count(7), 0);
            CHECK.due("the next one begins anew", Check.feed(w, "t=2"), 3);
            CHECK.due("the next one", w.ask(), 1);
            CHECK.due("the next one", w.asked(0), 1);
            CHECK.due("an empty one", w.ask(), -10);
        }
    }

    private static void forHowManyBits() {
        CHECK.of("Promise 32: for how many BITS it is so");
        FrescoWall w = new FrescoWall();
        CHECK.due("no BITS", Check.ask(w, "t>0"), 0);
        CHECK.due("no BITS", Check.ask(w, "!t>0"), 0);
        for (int n = 1; n <= 30; n++) {
            bit(w, n);
            CHECK.due("all", Check.ask(w, "t>0"), n);
            CHECK.due("none", Check.ask(w, "t=0"), 0);
            CHECK.due("not none", Check.ask(w, "!t=0"), n);
            CHECK.due("but the last", Check.ask(w, "t<" + n), n - 1);
            CHECK.due("the last", Check.ask(w, "t=" + n), 1);
            CHECK.due("the last", w.asked(0), n - 1);
        }
    }

    private static void askedNone() {
        CHECK.of("Promise 33: The i-th BIT, from 0 on, for which it was so. NONE");
        FrescoWall w = thick(30);
        for (int i : new int[] {-1, 0, 1, 29, 30, Integer.MIN_VALUE, Integer.MAX_VALUE}) {
            CHECK.due("none was asked, i " + i, w.asked(i), -1);
        }
        CHECK.due("a FAULT alone", Check.ask(w, "t="), -12);
        CHECK.due("none was read", w.asked(0), -1);
        Check.ask(w, "t>0");
        for (int i = 0; i < 30; i++) {
            CHECK.due("i " + i, w.asked(i), i);
        }
        for (int i : new int[] {-1, 30, 31, 32, 33, Integer.MIN_VALUE, Integer.MAX_VALUE}) {
            CHECK.due("i " + i, w.asked(i), -1);
        }
        Check.ask(w, "t=3|t=17|t=30");
        int[] due = {2, 16, 29, -1, -1};
        for (int i = 0; i < due.length; i++) {
            CHECK.due("i " + i, w.asked(i), due[i]);
        }
        Check.ask(w, "t>30");
        CHECK.due("for none", w.asked(0), -1);
    }

    private static void latestThatWasRead() {
        CHECK.of("Promise 33: for which the latest QUESTION that was read was so");
        FrescoWall w = thick(4);
        so(w, "t=2|t=3", 1, 2);
        for (String text : new String[] {"", "t=1|", "t=1&t=4|x", "(t=4", "t=4)", "!t=4 ", "t=1&!", "(!(!"}) {
            CHECK.due("a FAULT", Check.ask(w, text) <= -10 ? 1 : 0, 1);
            CHECK.due("is not read", w.asked(0), 1);
            CHECK.due("is not read", w.asked(1), 2);
            CHECK.due("is not read", w.asked(2), -1);
        }
        so(w, "t=4", 3);
        CHECK.due("a FAULT", Check.ask(w, "t=1|t=2&!"), -19);
        so(w, "t=9");
        CHECK.due("a FAULT", Check.ask(w, "t=1|!(t=2|!("), -22);
        so(w, "(t=1|(t=3))&t>2", 2);
    }

    private static void asItWasAsked() {
        CHECK.of("Promise 33: was so as it was asked");
        FrescoWall w = thick(2);
        so(w, "w=0&j=0&g=1&b=99&v=0", 0, 1);
        w.join(0, 1, 1, 3);
        w.word(0, 0, 0, 0);
        w.enter(1, 4, 0);
        bit(w, 3);
        CHECK.due("as it was", w.asked(0), 0);
        CHECK.due("as it was", w.asked(1), 1);
        CHECK.due("a BIT that came later", w.asked(2), -1);
        so(w, "w=0&j=0&g=1&b=99&v=0", 2);
    }
}
