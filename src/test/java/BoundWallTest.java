/** Part 4 of the document and promises 19 to 26, sentence by sentence: just inside each bound and just outside it. */
public final class BoundWallTest {
    private static final Check CHECK = new Check("BoundWallTest");
    private static final int BELOW = -100000;
    private static final int[] NO_BITS = {-1, 3, 29, 30, 31, 32, Integer.MIN_VALUE, Integer.MAX_VALUE};

    public static void main(String[] args) {
        wordNone();
        wordBad();
        wordStandsWithItsGroup();
        aWordThatItHad();
        wordOtherwise();
        wordOtherwiseOfSeveral();
        wordOverlaps();
        wordAmongAnotherGroups();
        otherwiseAheadOfOverlap();
        wordInPlaceOfPut();
        unsayRefused();
        unsayWithAnother();
        unsayTheLast();
        putAheadOfTheJoin();
        putNone();
        putBad();
        putState();
        putInPlace();
        othersNotPut();
        putOverlaps();
        firstThatOverlap();
        liftRefused();
        liftedGroup();
        placedNone();
        placedBy();
        atTheLeast();
        atTheOutermostCells();
        atNone();
        proofOfAWord();
        proofByBestJoins();
        proofNow();
        fewestJoins();
        fewestAmongThree();
        leastBitOfAsFew();
        leastOfSeveralWays();
        proofByNoOtherJoins();
        proofRefused();
        reasonNone();
        CHECK.end();
    }

    private static void dueAt(FrescoWall w, int bit, int t, int x, int y, int by) {
        CHECK.due("t of " + bit, w.placed(bit, 0), t);
        CHECK.due("x of " + bit, w.placed(bit, 1), x);
        CHECK.due("y of " + bit, w.placed(bit, 2), y);
        CHECK.due("by of " + bit, w.placed(bit, 3), by);
    }

    private static void dueOff(FrescoWall w, int bit) {
        for (int what = 0; what <= 3; what++) {
            CHECK.due("placed(" + bit + ", " + what + ")", w.placed(bit, what), BELOW);
        }
    }

    private static void dueClash(FrescoWall w, int kind, int first, int second, int... joins) {
        CHECK.due("clash 0", w.clash(0), kind);
        CHECK.due("clash 1", w.clash(1), joins.length);
        CHECK.due("clash 2", w.clash(2), first);
        CHECK.due("clash 3", w.clash(3), second);
        for (int i = 0; i < joins.length; i++) {
            CHECK.due("clash " + (10 + i), w.clash(10 + i), joins[i]);
        }
        CHECK.due("clash behind its joins", w.clash(10 + joins.length), -1);
    }

    private static FrescoWall row(int n) {
        FrescoWall w = Check.squares(n);
        for (int k = 0; k + 1 < n; k++) {
            CHECK.due("join of the row", w.join(k, 1, k + 1, 3), k);
        }
        return w;
    }

    private static void wordNone() {
        CHECK.of("Promise 19: NONE");
        FrescoWall w = row(3);
        for (int bit : NO_BITS) {
            CHECK.due("word of " + bit, w.word(bit, 0, 0, 0), -1);
            CHECK.due("NONE ahead of BAD", w.word(bit, 4, 501, 0), -1);
        }
        CHECK.due("words", w.count(4), 0);
        CHECK.due("the last", w.word(2, 0, 0, 0), 3);
    }

    private static void wordBad() {
        CHECK.of("4: WORD: a BIT is PLACED so (x, y -500 .. 500); Promise 19: BAD: t, x, y");
        FrescoWall w = Check.squares(3);
        for (int t = 0; t <= 3; t++) {
            CHECK.due("t " + t, w.word(0, t, 0, 0), 1);
            dueAt(w, 0, t, 0, 0, 2);
        }
        for (int far : new int[] {500, -500}) {
            CHECK.due("x " + far, w.word(0, 0, far, 1), 1);
            dueAt(w, 0, 0, far, 1, 2);
            CHECK.due("y " + far, w.word(0, 0, 1, far), 1);
            dueAt(w, 0, 0, 1, far, 2);
        }
        for (int t : new int[] {-1, 4, Integer.MIN_VALUE, Integer.MAX_VALUE}) {
            CHECK.due("t " + t, w.word(0, t, 0, 0), -2);
        }
        for (int far : new int[] {501, -501, Integer.MIN_VALUE, Integer.MAX_VALUE}) {
            CHECK.due("x " + far, w.word(0, 0, far, 0), -2);
            CHECK.due("y " + far, w.word(0, 0, 0, far), -2);
        }
        dueAt(w, 0, 0, 1, -500, 2);
        CHECK.due("no clash", w.clash(0), -1);
        w.put(1, 0, 3, 3);
        CHECK.due("BAD ahead of a CLASH", w.word(1, 4, 1, -500), -2);
        CHECK.due("no clash", w.clash(0), -1);
    }

    private static void wordStandsWithItsGroup() {
        CHECK.of("4: and stands so with its GROUP; Promise 19: how many BITS stand by it, it counted");
        FrescoWall w = Check.squares(5);
        w.join(0, 1, 1, 3);
        w.join(1, 2, 2, 3);
        w.join(4, 1, 3, 3);
        CHECK.due("three", w.word(0, 0, 500, 500), 3);
        dueAt(w, 0, 0, 500, 500, 2);
        // 2's left edge on 1's upper one: a quarter
        dueAt(w, 1, 0, 501, 500, 1);
        dueAt(w, 2, 1, 502, 501, 1);
        CHECK.due("two", w.word(3, 0, 0, 0), 2);
        dueAt(w, 4, 0, -1, 0, 1);
        CHECK.due("on the wall", w.count(3), 5);
        CHECK.due("words", w.count(4), 2);
        CHECK.due("at", w.at(501, 500), 1);
        CHECK.due("at", w.at(501, 501), 2);
        w.undo(2);
        CHECK.due("one", w.word(4, 0, 9, 9), 1);
    }

    private static void aWordThatItHad() {
        CHECK.of("Promise 19: (A WORD that it had is gone then; refused, it stays.)");
        FrescoWall w = row(2);
        Check.bit(w, Check.box(1, 1, "0000"), 5, -1, 0);
        w.word(2, 0, 30, 30);
        CHECK.due("word", w.word(0, 0, 10, 10), 2);
        CHECK.due("another", w.word(0, 1, 20, 20), 2);
        CHECK.due("one word each", w.count(4), 2);
        dueAt(w, 0, 1, 20, 20, 2);
        dueAt(w, 1, 1, 20, 21, 1);
        CHECK.due("refused", w.word(0, 0, 30, 30), -15);
        CHECK.due("refused", w.word(0, 0, 29, 30), -15);
        CHECK.due("refused", w.word(0, 0, 501, 30), -2);
        dueAt(w, 0, 1, 20, 20, 2);
        dueAt(w, 1, 1, 20, 21, 1);
        CHECK.due("words", w.count(4), 2);
        CHECK.due("the same again", w.word(0, 1, 20, 20), 2);
        CHECK.due("taken back", w.unsay(0), 1);
        CHECK.due("just once", w.unsay(0), -3);
    }

    private static void wordOtherwise() {
        CHECK.of("4: CLASH: 4: another BIT of the GROUP has a WORD that says otherwise (JOINS from that one to this one)");
        for (int t = 0; t <= 1; t++) {
            for (int x = -1; x <= 1; x++) {
                for (int y = -1; y <= 1; y++) {
                    FrescoWall w = row(4);
                    w.word(3, 0, 13, 10);
                    boolean so = t == 0 && x == 0 && y == 0;
                    CHECK.due("word by " + t + ", " + x + ", " + y, w.word(0, t, 10 + x, 10 + y), so ? 4 : -14);
                    if (!so) {
                        dueClash(w, 4, 3, 0, 2, 1, 0);
                    }
                    dueAt(w, 0, 0, 10, 10, so ? 2 : 1);
                    CHECK.due("words", w.count(4), so ? 2 : 1);
                }
            }
        }
        FrescoWall w = row(3);
        w.word(1, 0, 10, 10);
        CHECK.due("its own one is not another's", w.word(1, 2, 0, 0), 3);
        dueAt(w, 0, 2, 1, 0, 1);
        w.undo(0);
        CHECK.due("no longer of the GROUP", w.word(0, 0, 9, 9), 1);
    }

    private static void wordOtherwiseOfSeveral() {
        CHECK.of("4: CLASH: 4 (if there are several such the least BIT)");
        FrescoWall w = row(5);
        w.word(4, 0, 14, 10);
        w.word(2, 0, 12, 10);
        w.word(3, 0, 13, 10);
        CHECK.due("the least", w.word(0, 0, 10, 11), -14);
        dueClash(w, 4, 2, 0, 1, 0);
        CHECK.due("it has one, the least of the others", w.word(2, 0, 0, 0), -14);
        dueClash(w, 4, 3, 2, 2);
        CHECK.due("the least", w.word(4, 3, 14, 10), -14);
        dueClash(w, 4, 2, 4, 2, 3);
        CHECK.due("as they say", w.word(0, 0, 10, 10), 5);
        CHECK.due("the least", w.word(4, 3, 14, 10), -14);
        dueClash(w, 4, 0, 4, 0, 1, 2, 3);
    }

    private static void wordOverlaps() {
        CHECK.of("4: CLASH: 5: a BIT of the GROUP would OVERLAP one of another GROUP on THE WALL by more than TOLERANCE; "
            + "(no JOINS are told)");
        for (int n = 0; n <= 4; n++) {
            FrescoWall w = new FrescoWall();
            for (int k = 0; k < 3; k++) {
                Check.bit(w, Check.box(4, 1, "0000"), 5, -1, 0);
            }
            w.join(0, 1, 1, 3);
            w.word(2, 0, 20, 10);
            for (int tolerance = 0; tolerance <= 4; tolerance++) {
                w.tolerance(tolerance);
                // 1 ends n cells within 2
                int answer = w.word(0, 0, 12 + n, 10);
                CHECK.due("by " + n + " with " + tolerance, answer, n <= tolerance ? 2 : -15);
                if (n > tolerance) {
                    dueClash(w, 5, 1, 2);
                    dueOff(w, 0);
                } else {
                    dueAt(w, 1, 0, 16 + n, 10, 1);
                    w.unsay(0);
                    w.lift(0);
                }
            }
        }
    }

    private static void wordAmongAnotherGroups() {
        CHECK.of("4: CLASH: 5: one of another GROUP on THE WALL");
        FrescoWall w = Check.squares(4);
        w.put(0, 0, 10, 10);
        CHECK.due("on it", w.word(1, 0, 10, 10), -15);
        w.lift(0);
        CHECK.due("one that is off is in nobody's way", w.word(1, 0, 10, 10), 1);
        // its own GROUP's BITS may overlap when TOLERANCE went down
        FrescoWall v = new FrescoWall();
        Check.bit(v, "0,0:0;4,0:0;4,2:0;3,2:0;3,1:9;1,1:0;1,2:0;0,2:0", 5, -1, 0);
        Check.bit(v, "0,0:9;2,0:0;5,1:0;-3,1:0", 5, -1, 0);
        v.tolerance(2);
        v.join(0, 4, 1, 0);
        v.tolerance(0);
        CHECK.due("one of its own GROUP is not another's", v.word(0, 0, 10, 10), 2);
        CHECK.due("nor now", v.word(0, 0, 10, 11), 2);
    }

    private static void otherwiseAheadOfOverlap() {
        CHECK.of("9: of several the first one told: CLASH 4 ahead of 5");
        FrescoWall w = row(2);
        Check.bit(w, Check.box(1, 1, "0000"), 5, -1, 0);
        w.word(1, 0, 11, 10);
        w.put(2, 0, 20, 20);
        CHECK.due("both", w.word(0, 0, 20, 20), -14);
        w.unsay(1);
        CHECK.due("5 alone", w.word(0, 0, 20, 20), -15);
    }

    private static void wordInPlaceOfPut() {
        CHECK.of("4: A WORD takes the place of what was PUT in the GROUP");
        FrescoWall w = row(3);
        w.put(2, 0, 10, 10);
        CHECK.due("word", w.word(0, 0, 20, 20), 3);
        dueAt(w, 2, 0, 22, 20, 1);
        w.undo(1);
        dueOff(w, 2);
        dueAt(w, 1, 0, 21, 20, 1);
        FrescoWall v = row(3);
        v.put(2, 0, 12, 10);
        CHECK.due("word where it is", v.word(0, 0, 10, 10), 3);
        v.undo(1);
        dueOff(v, 2);
        FrescoWall u = row(3);
        Check.bit(u, Check.box(1, 1, "0000"), 5, -1, 0);
        u.put(3, 0, 30, 30);
        u.put(2, 0, 12, 10);
        CHECK.due("refused", u.word(0, 0, 30, 30), -15);
        u.undo(1);
        dueAt(u, 2, 0, 12, 10, 0);
        dueOff(u, 0);
    }

    private static void unsayRefused() {
        CHECK.of("Promise 20: NONE; STATE: it has none");
        FrescoWall w = row(3);
        for (int bit : NO_BITS) {
            CHECK.due("unsay of " + bit, w.unsay(bit), -1);
        }
        CHECK.due("none", w.unsay(0), -3);
        w.put(0, 0, 0, 0);
        CHECK.due("put is no word", w.unsay(0), -3);
        w.word(1, 0, 1, 0);
        CHECK.due("another's", w.unsay(0), -3);
        CHECK.due("another's", w.unsay(2), -3);
        CHECK.due("words", w.count(4), 1);
        CHECK.due("its own", w.unsay(1), 1);
        CHECK.due("taken back", w.unsay(1), -3);
        CHECK.due("words", w.count(4), 0);
    }

    private static void unsayWithAnother() {
        CHECK.of("Promise 20: A WORD is taken back: 1; 4: it was not PUT where another one has a WORD");
        FrescoWall w = row(3);
        w.word(0, 0, 10, 10);
        w.word(2, 0, 12, 10);
        CHECK.due("unsay", w.unsay(0), 1);
        dueAt(w, 0, 0, 10, 10, 1);
        CHECK.due("words", w.count(4), 1);
        CHECK.due("put is STATE still", w.put(0, 0, 0, 0), -3);
        w.undo(0);
        dueOff(w, 0);
        dueAt(w, 1, 0, 11, 10, 1);
    }

    private static void unsayTheLast() {
        CHECK.of("Promise 20: (If the GROUP has no other one it is as if it had been PUT by this BIT.)");
        FrescoWall w = row(4);
        w.put(3, 0, 3, 0);
        w.word(1, 0, 11, 10);
        CHECK.due("unsay", w.unsay(1), 1);
        for (int k = 0; k < 4; k++) {
            dueAt(w, k, 0, 10 + k, 10, 0);
        }
        w.undo(1);
        dueAt(w, 1, 0, 11, 10, 0);
        dueAt(w, 0, 0, 10, 10, 0);
        dueOff(w, 2);
        dueOff(w, 3);
        w.undo(0);
        dueOff(w, 0);
        CHECK.due("lift", w.lift(1), 1);
        FrescoWall v = row(2);
        v.word(0, 0, 10, 10);
        v.unsay(0);
        CHECK.due("put elsewhere", v.put(1, 0, 0, 0), 2);
        CHECK.due("lift", v.lift(0), 2);
        // one that was PUT ahead of the JOIN is not PUT any more
        FrescoWall u = Check.squares(2);
        u.put(0, 0, 0, 0);
        u.word(1, 0, 1, 0);
        CHECK.due("join", u.join(0, 1, 1, 3), 0);
        CHECK.due("unsay", u.unsay(1), 1);
        dueAt(u, 0, 0, 0, 0, 0);
        dueAt(u, 1, 0, 1, 0, 0);
        u.undo(0);
        dueOff(u, 0);
        dueAt(u, 1, 0, 1, 0, 0);
    }

    private static void putAheadOfTheJoin() {
        CHECK.of("3: one that has no BIT with a WORD, nor one that was PUT, is off THE WALL (PUT and a WORD in one GROUP)");
        FrescoWall w = Check.squares(2);
        w.put(0, 0, 0, 0);
        w.word(1, 0, 1, 0);
        CHECK.due("join", w.join(0, 1, 1, 3), 0);
        dueAt(w, 0, 0, 0, 0, 1);
        CHECK.due("its GROUP has a WORD", w.lift(0), -3);
        CHECK.due("its GROUP has a WORD", w.put(0, 0, 0, 0), -3);
        w.undo(0);
        dueAt(w, 0, 0, 0, 0, 0);
        dueAt(w, 1, 0, 1, 0, 2);
        w.join(0, 1, 1, 3);
        // a WORD in the GROUP takes the place of what was PUT
        CHECK.due("word", w.word(1, 0, 1, 0), 2);
        w.undo(1);
        dueOff(w, 0);
        dueAt(w, 1, 0, 1, 0, 2);
    }

    private static void putNone() {
        CHECK.of("Promise 21: NONE");
        FrescoWall w = row(3);
        for (int bit : NO_BITS) {
            CHECK.due("put of " + bit, w.put(bit, 0, 0, 0), -1);
            CHECK.due("NONE ahead of BAD", w.put(bit, -1, 0, 501), -1);
        }
        CHECK.due("the last", w.put(2, 0, 0, 0), 3);
    }

    private static void putBad() {
        CHECK.of("Promise 21: BAD");
        FrescoWall w = Check.squares(1);
        for (int t = 0; t <= 3; t++) {
            CHECK.due("t " + t, w.put(0, t, 0, 0), 1);
            dueAt(w, 0, t, 0, 0, 0);
        }
        for (int far : new int[] {500, -500}) {
            CHECK.due("x " + far, w.put(0, 0, far, 1), 1);
            dueAt(w, 0, 0, far, 1, 0);
            CHECK.due("y " + far, w.put(0, 0, 1, far), 1);
            dueAt(w, 0, 0, 1, far, 0);
        }
        for (int t : new int[] {-1, 4, Integer.MIN_VALUE, Integer.MAX_VALUE}) {
            CHECK.due("t " + t, w.put(0, t, 0, 0), -2);
        }
        for (int far : new int[] {501, -501, Integer.MIN_VALUE, Integer.MAX_VALUE}) {
            CHECK.due("x " + far, w.put(0, 0, far, 0), -2);
            CHECK.due("y " + far, w.put(0, 0, 0, far), -2);
        }
        dueAt(w, 0, 0, 1, -500, 0);
        w.word(0, 0, 0, 0);
        CHECK.due("BAD ahead of STATE", w.put(0, 0, 501, 0), -2);
        CHECK.due("BAD ahead of STATE", w.put(0, 4, 0, 0), -2);
    }

    private static void putState() {
        CHECK.of("4: PUT: a GROUP without a WORD; Promise 21: STATE: its GROUP has a WORD");
        FrescoWall w = row(2);
        Check.bit(w, Check.box(1, 1, "0000"), 5, -1, 0);
        w.word(2, 0, 20, 20);
        CHECK.due("another GROUP's is no matter", w.put(0, 0, 5, 5), 2);
        w.word(0, 0, 10, 10);
        CHECK.due("its own", w.put(0, 0, 0, 0), -3);
        CHECK.due("another BIT's", w.put(1, 0, 0, 0), -3);
        CHECK.due("where it is", w.put(1, 0, 11, 10), -3);
        CHECK.due("STATE ahead of a CLASH", w.put(0, 0, 20, 20), -3);
        CHECK.due("no clash", w.clash(0), -1);
        dueAt(w, 0, 0, 10, 10, 2);
        w.undo(0);
        CHECK.due("no longer of its GROUP", w.put(1, 0, 0, 0), 1);
        w.unsay(0);
        CHECK.due("taken back", w.put(0, 0, 1, 0), 1);
    }

    private static void putInPlace() {
        CHECK.of("4: PUT (in place of where it was); Promise 21: how many BITS are");
        FrescoWall w = row(3);
        CHECK.due("put", w.put(0, 0, 10, 10), 3);
        CHECK.due("at", w.at(12, 10), 2);
        CHECK.due("on where it was", w.put(0, 0, 11, 10), 3);
        CHECK.due("at", w.at(10, 10), -1);
        CHECK.due("at", w.at(13, 10), 2);
        CHECK.due("turned", w.put(1, 3, 0, 0), 3);
        dueAt(w, 0, 3, 0, 1, 0);
        dueAt(w, 2, 3, 0, -1, 0);
        CHECK.due("on the wall", w.count(3), 3);
        w.undo(1);
        CHECK.due("two", w.put(0, 0, 10, 10), 2);
        CHECK.due("one", w.put(2, 0, 20, 10), 1);
    }

    private static void othersNotPut() {
        CHECK.of("4: PUT (the others of it were not PUT then)");
        FrescoWall w = row(3);
        w.put(0, 0, 10, 10);
        w.put(1, 0, 11, 10);
        w.put(2, 0, 12, 10);
        w.undo(0);
        dueOff(w, 0);
        dueAt(w, 1, 0, 11, 10, 0);
        w.undo(1);
        dueOff(w, 1);
        dueAt(w, 2, 0, 12, 10, 0);
        // two that were put and joined: put anew by one of them the other one is no longer put
        FrescoWall v = Check.squares(2);
        v.put(0, 0, 10, 10);
        v.put(1, 0, 11, 10);
        v.join(0, 1, 1, 3);
        v.put(0, 0, 20, 20);
        v.undo(0);
        dueAt(v, 0, 0, 20, 20, 0);
        dueOff(v, 1);
    }

    private static void putOverlaps() {
        CHECK.of("4: CLASH: 5 of a GROUP that is PUT: by more than TOLERANCE; Promise 21: -10 less the CLASH");
        for (int n = 0; n <= 4; n++) {
            FrescoWall w = new FrescoWall();
            for (int k = 0; k < 3; k++) {
                Check.bit(w, Check.box(4, 1, "0000"), 5, -1, 0);
            }
            w.join(0, 1, 1, 3);
            w.put(2, 0, 20, 10);
            w.put(1, 0, 0, 0);
            for (int tolerance = 0; tolerance <= 4; tolerance++) {
                w.tolerance(tolerance);
                CHECK.due("by " + n + " with " + tolerance, w.put(1, 0, 16 + n, 10), n <= tolerance ? 2 : -15);
                if (n > tolerance) {
                    dueClash(w, 5, 1, 2);
                    dueAt(w, 1, 0, 0, 0, 0);
                } else {
                    dueAt(w, 1, 0, 16 + n, 10, 0);
                }
            }
        }
    }

    private static void firstThatOverlap() {
        CHECK.of("4: CLASH: 5 (the first such, by this GROUP's, then by numbers)");
        FrescoWall w = Check.squares(7);
        Check.bit(w, Check.box(3, 1, "0000"), 5, -1, 0);
        w.join(5, 1, 1, 3);
        w.join(1, 1, 3, 3);
        w.put(0, 0, 12, 10);
        w.put(2, 0, 10, 10);
        w.put(4, 0, 11, 10);
        // 5, 1, 3 on 2, 4, 0
        CHECK.due("the least of the GROUP", w.put(5, 0, 10, 10), -15);
        dueClash(w, 5, 1, 4);
        CHECK.due("by whichever it is put", w.put(3, 0, 12, 10), -15);
        dueClash(w, 5, 1, 4);
        w.lift(4);
        CHECK.due("the next one", w.word(5, 0, 10, 10), -15);
        dueClash(w, 5, 3, 0);
        CHECK.due("one on many", w.word(7, 0, 10, 10), -15);
        dueClash(w, 5, 7, 0);
        w.lift(0);
        w.put(4, 0, 11, 10);
        CHECK.due("one on many", w.put(7, 0, 10, 10), -15);
        dueClash(w, 5, 7, 2);
    }

    private static void liftRefused() {
        CHECK.of("Promise 22: NONE; STATE: it is not on THE WALL, or its GROUP has a WORD");
        FrescoWall w = row(3);
        for (int bit : NO_BITS) {
            CHECK.due("lift of " + bit, w.lift(bit), -1);
        }
        CHECK.due("not on it", w.lift(0), -3);
        w.word(1, 0, 1, 0);
        CHECK.due("its own word", w.lift(1), -3);
        CHECK.due("another's word", w.lift(0), -3);
        CHECK.due("on the wall", w.count(3), 3);
        w.unsay(1);
        CHECK.due("put", w.lift(0), 3);
        CHECK.due("not on it", w.lift(1), -3);
    }

    private static void liftedGroup() {
        CHECK.of("4: LIFTED: a GROUP that was PUT goes off; Promise 22: how many BITS");
        FrescoWall w = row(3);
        Check.bit(w, Check.box(1, 1, "0000"), 5, -1, 0);
        w.put(0, 0, 0, 0);
        w.put(3, 0, 9, 9);
        CHECK.due("by another one", w.lift(2), 3);
        for (int bit = 0; bit < 3; bit++) {
            dueOff(w, bit);
        }
        CHECK.due("at", w.at(0, 0), -1);
        dueAt(w, 3, 0, 9, 9, 0);
        CHECK.due("one", w.lift(3), 1);
        CHECK.due("on the wall", w.count(3), 0);
        // all that were put in it
        FrescoWall v = Check.squares(2);
        v.put(0, 0, 10, 10);
        v.put(1, 0, 11, 10);
        v.join(0, 1, 1, 3);
        CHECK.due("two", v.lift(1), 2);
        v.undo(0);
        dueOff(v, 0);
        dueOff(v, 1);
    }

    private static void placedNone() {
        CHECK.of("Promise 23: -100000: it is not there, too");
        FrescoWall w = row(2);
        Check.bit(w, Check.box(1, 1, "0000"), 5, -1, 0);
        for (int bit = 0; bit < 3; bit++) {
            dueOff(w, bit);
        }
        w.put(0, 3, 7, -8);
        for (int bit : NO_BITS) {
            dueOff(w, bit);
        }
        dueOff(w, 2);
        for (int what : new int[] {-1, 4, Integer.MIN_VALUE, Integer.MAX_VALUE}) {
            CHECK.due("what " + what, w.placed(0, what), BELOW);
        }
        dueAt(w, 0, 3, 7, -8, 0);
    }

    private static void placedBy() {
        CHECK.of("Promise 23: 3: 2 it has a WORD, 1 its GROUP has one, 0 it was PUT");
        FrescoWall w = row(3);
        w.put(1, 0, 11, 10);
        for (int k = 0; k < 3; k++) {
            dueAt(w, k, 0, 10 + k, 10, 0);
        }
        w.word(1, 0, 11, 10);
        for (int k = 0; k < 3; k++) {
            dueAt(w, k, 0, 10 + k, 10, k == 1 ? 2 : 1);
        }
        w.word(2, 0, 12, 10);
        for (int k = 0; k < 3; k++) {
            dueAt(w, k, 0, 10 + k, 10, k == 0 ? 1 : 2);
        }
    }

    private static void atTheLeast() {
        CHECK.of("Promise 24: Which BIT has a CELL of THE WALL (the least one)");
        FrescoWall w = new FrescoWall();
        for (int k = 0; k < 4; k++) {
            Check.bit(w, Check.box(2, 1, "0000"), 5, -1, 0);
        }
        w.tolerance(2);
        w.put(2, 0, 0, 0);
        CHECK.due("alone", w.at(0, 0), 2);
        w.word(3, 0, 0, 0);
        CHECK.due("the least", w.at(0, 0), 2);
        w.put(1, 0, 1, 0);
        CHECK.due("beside it", w.at(0, 0), 2);
        CHECK.due("the least", w.at(1, 0), 1);
        CHECK.due("its other one", w.at(2, 0), 1);
        w.lift(1);
        CHECK.due("off", w.at(1, 0), 2);
        w.lift(2);
        CHECK.due("off", w.at(1, 0), 3);
    }

    private static void atTheOutermostCells() {
        CHECK.of("Promise 24: Which BIT has a CELL of THE WALL; 1: x, y -20 .. 20; TURNED, CELLS by their middles");
        for (int t = 0; t < 4; t++) {
            FrescoWall w = new FrescoWall();
            Check.bit(w, "-20,-20:1;20,-20:2;20,20:3;-20,20:4", 5, 0, 0);
            w.put(0, t, 100, -100);
            for (int far = -22; far <= 21; far++) {
                boolean on = far >= -20 && far <= 19;
                CHECK.due("left", w.at(80, far - 100), on ? 0 : -1);
                CHECK.due("beside the left", w.at(79, far - 100), -1);
                CHECK.due("right", w.at(119, far - 100), on ? 0 : -1);
                CHECK.due("beside the right", w.at(120, far - 100), -1);
                CHECK.due("lowest", w.at(100 + far, -120), on ? 0 : -1);
                CHECK.due("below", w.at(100 + far, -121), -1);
                CHECK.due("uppermost", w.at(100 + far, -81), on ? 0 : -1);
                CHECK.due("above", w.at(100 + far, -80), -1);
            }
        }
        for (int t = 0; t < 4; t++) {
            // the ones far out alone
            FrescoWall w = new FrescoWall();
            Check.bit(w, "-20,-20:1;-18,-20:2;-18,-19:3;-20,-19:4", 5, 0, 0);
            Check.bit(w, "18,19:1;20,19:2;20,20:3;18,20:4", 5, 0, 0);
            w.put(0, t, 0, 0);
            w.put(1, t, 0, 0);
            int[][] first = {{-20, -20, -19, -20}, {19, -20, 19, -19}, {19, 19, 18, 19}, {-20, 19, -20, 18}};
            CHECK.due("the first", w.at(first[t][0], first[t][1]), 0);
            CHECK.due("the first", w.at(first[t][2], first[t][3]), 0);
            CHECK.due("the second", w.at(-1 - first[t][0], -1 - first[t][1]), 1);
            CHECK.due("the second", w.at(-1 - first[t][2], -1 - first[t][3]), 1);
            int found = 0;
            for (int far = -21; far <= 20; far++) {
                found += w.at(far, first[t][1]) == 0 ? 1 : 0;
                found += w.at(first[t][0], far) == 0 ? 1 : 0;
                found += w.at(far, -1 - first[t][1]) == 1 ? 1 : 0;
                found += w.at(-1 - first[t][0], far) == 1 ? 1 : 0;
            }
            CHECK.due("no other ones", found, 6);
        }
    }

    private static void atNone() {
        CHECK.of("Promise 24: NONE: none");
        FrescoWall w = row(2);
        CHECK.due("none on the wall", w.at(0, 0), -1);
        w.word(0, 0, 500, -500);
        int[][] beside = {{499, -500}, {502, -500}, {500, -501}, {500, -499}, {501, -499}};
        for (int[] cell : beside) {
            CHECK.due("beside", w.at(cell[0], cell[1]), -1);
        }
        CHECK.due("it", w.at(500, -500), 0);
        CHECK.due("beyond 500", w.at(501, -500), 1);
        int[] far = {Integer.MIN_VALUE, Integer.MAX_VALUE, Integer.MIN_VALUE + 500, Integer.MAX_VALUE - 500};
        for (int x : far) {
            CHECK.due("far", w.at(x, -500), -1);
            CHECK.due("far", w.at(500, x), -1);
            CHECK.due("far", w.at(x, x), -1);
        }
    }

    /** Four squares round a point whose edges fit best as they are joined, colours 1 to 4 in the order of going round. */
    private static FrescoWall ring(int... order) {
        FrescoWall w = new FrescoWall();
        for (String colours : new String[] {"9149", "9921", "2993", "4399"}) {
            Check.bit(w, Check.box(1, 1, colours), 5, -1, 0);
        }
        int[][] joins = {{0, 1, 1, 3}, {1, 2, 2, 0}, {2, 3, 3, 1}, {3, 0, 0, 2}};
        int number = 0;
        for (int k : order) {
            CHECK.due("join", w.join(joins[k][0], joins[k][1], joins[k][2], joins[k][3]), number);
            CHECK.due("best", w.joined(number, 4), 1);
            number++;
        }
        return w;
    }

    private static void dueProof(FrescoWall w, int bit, int... joins) {
        CHECK.due("proof of " + bit, w.proof(bit), joins.length);
        for (int i = 0; i < joins.length; i++) {
            CHECK.due("reason " + i + " of " + bit, w.reason(bit, i), joins[i]);
        }
        CHECK.due("behind the last reason of " + bit, w.reason(bit, joins.length), -1);
        CHECK.due("ahead of the first reason of " + bit, w.reason(bit, -1), -1);
    }

    private static void proofOfAWord() {
        CHECK.of("4: PROVED are BITS with a WORD");
        FrescoWall w = row(3);
        CHECK.due("none", w.count(5), 0);
        w.put(1, 0, 1, 0);
        CHECK.due("put is no proof", w.proof(1), -3);
        CHECK.due("none", w.count(5), 0);
        w.word(1, 0, 1, 0);
        dueProof(w, 1);
        CHECK.due("its neighbours fit many", w.proof(0), -3);
        CHECK.due("its neighbours fit many", w.proof(2), -3);
        CHECK.due("one", w.count(5), 1);
        w.unsay(1);
        CHECK.due("not any more", w.proof(1), -3);
        CHECK.due("none", w.count(5), 0);
    }

    private static void proofByBestJoins() {
        CHECK.of("4: and BITS that are led to one by JOINS that are BEST BOTH WAYS");
        FrescoWall w = ring(0, 1, 2);
        CHECK.due("no word", w.proof(0), -3);
        w.put(0, 0, 0, 0);
        CHECK.due("no word", w.proof(3), -3);
        w.word(0, 0, 0, 0);
        dueProof(w, 0);
        dueProof(w, 1, 0);
        dueProof(w, 2, 0, 1);
        dueProof(w, 3, 0, 1, 2);
        CHECK.due("all", w.count(5), 4);
        w.undo(1);
        dueProof(w, 1, 0);
        CHECK.due("none leads to it", w.proof(2), -3);
        CHECK.due("best, but to none", w.proof(3), -3);
        CHECK.due("two", w.count(5), 2);
    }

    private static void proofNow() {
        CHECK.of("4: (as FITS now)");
        FrescoWall w = ring(0, 1, 2);
        w.word(0, 0, 0, 0);
        w.likeness(2, 3, 8);
        CHECK.due("all", w.count(5), 4);
        w.likeness(2, 3, 9);
        CHECK.due("as good ones", w.count(5), 2);
        dueProof(w, 1, 0);
        CHECK.due("as good ones", w.proof(2), -3);
        w.likeness(2, 3, 0);
        dueProof(w, 2, 0, 1);
        // another BIT comes and fits as well
        Check.bit(w, Check.box(1, 1, "1888"), 5, -1, 0);
        CHECK.due("a rival", w.proof(1), -3);
        CHECK.due("one is left", w.count(5), 1);
        // a JOIN that is no FIT any more
        FrescoWall v = new FrescoWall();
        Check.bit(v, "0,0:0;4,0:0;4,2:0;3,2:0;3,1:9;1,1:0;1,2:0;0,2:0", 5, -1, 0);
        Check.bit(v, "0,0:9;2,0:0;5,1:0;-3,1:0", 5, -1, 0);
        v.tolerance(2);
        v.join(0, 4, 1, 0);
        v.word(0, 0, 0, 0);
        dueProof(v, 1, 0);
        v.tolerance(1);
        CHECK.due("no FIT", v.proof(1), -3);
    }

    private static void fewestJoins() {
        CHECK.of("4: PROOF: the fewest such JOINS from a BIT with a WORD to it");
        FrescoWall w = ring(0, 1, 2, 3);
        w.word(0, 0, 0, 0);
        dueProof(w, 3, 3);
        dueProof(w, 1, 0);
        w.likeness(4, 3, 9);
        // of 3's joins none is best now
        CHECK.due("none", w.proof(3), -3);
        dueProof(w, 2, 0, 1);
        w.likeness(4, 3, 0);
        w.likeness(4, 5, 9);
        Check.bit(w, Check.box(1, 1, "5888"), 5, -1, 0);
        dueProof(w, 3, 0, 1, 2);
        w.word(2, 0, 1, 1);
        dueProof(w, 3, 2);
        dueProof(w, 1, 0);
        dueProof(w, 2);
    }

    /** Where each way round is odd a step may lead to a bit that is just as far away. */
    private static void fewestAmongThree() {
        CHECK.of("4: PROOF: the fewest such JOINS, also where each leads to both others");
        FrescoWall w = Check.threeInARound();
        CHECK.due("word", w.word(1, 0, 0, 0), 3);
        dueProof(w, 0, 2);
        dueProof(w, 2, 0);
        w.undo(2);
        dueProof(w, 0, 0, 1);
    }

    private static void leastBitOfAsFew() {
        CHECK.of("4: (of several such BITS that need as few the least one)");
        FrescoWall w = ring(1, 0, 2, 3);
        w.word(2, 0, 1, 1);
        w.word(0, 0, 0, 0);
        // to 1 from 0 by join 1, from 2 by join 0; to 3 from 0 by join 3, from 2 by join 2
        dueProof(w, 1, 1);
        dueProof(w, 3, 3);
        w.unsay(0);
        dueProof(w, 1, 0);
        dueProof(w, 3, 2);
        w.word(3, 0, 0, 1);
        w.word(1, 0, 1, 0);
        dueProof(w, 0, 1);
    }

    private static void leastOfSeveralWays() {
        CHECK.of("4: of several ways the one whose JOINS from the begin are the least");
        // joins in going round: 0-1, 1-2, 2-3, 3-0
        FrescoWall w = ring(1, 3, 2, 0);
        w.word(0, 0, 0, 0);
        // from 0 to 2 by joins 3 0 or by 1 2
        dueProof(w, 2, 1, 2);
        FrescoWall v = ring(3, 0, 1, 2);
        v.word(2, 0, 1, 1);
        // from 2 to 0 by joins 2 1 or by 3 0
        dueProof(v, 0, 2, 1);
        FrescoWall u = ring(0, 3, 2, 1);
        u.word(3, 0, 0, 1);
        // from 3 to 1 by joins 1 0 or by 2 3
        dueProof(u, 1, 1, 0);
    }

    private static void proofByNoOtherJoins() {
        CHECK.of("4: PROOF: such JOINS (none that were undone, none that are not best)");
        FrescoWall w = new FrescoWall();
        for (String colours : new String[] {"9149", "9921", "2993", "4399"}) {
            Check.bit(w, Check.box(1, 1, colours), 5, -1, 0);
        }
        // 0 is a stage of the way from 1 to 3
        CHECK.due("one that is not best", w.join(2, 3, 3, 0), 0);
        CHECK.due("one that is not best", w.join(1, 1, 2, 1), 1);
        w.undo(1);
        w.undo(0);
        CHECK.due("best", w.join(0, 1, 1, 3), 2);
        CHECK.due("best", w.join(3, 0, 0, 2), 3);
        w.word(1, 0, 0, 0);
        dueProof(w, 3, 2, 3);
        w.unsay(1);
        w.word(3, 0, 0, 0);
        dueProof(w, 1, 3, 2);
        dueProof(w, 0, 3);
        FrescoWall v = new FrescoWall();
        for (String colours : new String[] {"9149", "9921", "2993", "4399"}) {
            Check.bit(v, Check.box(1, 1, colours), 5, -1, 0);
        }
        // join 0 is there and leads to 2, but by no best FIT
        CHECK.due("one that is not best", v.join(1, 0, 2, 1), 0);
        CHECK.due("best", v.join(0, 1, 1, 3), 1);
        CHECK.due("best", v.join(3, 0, 0, 2), 2);
        v.word(1, 0, 0, 0);
        dueProof(v, 3, 1, 2);
        CHECK.due("not by that one", v.proof(2), -3);
        // two pairs of EDGES lie on one another at once, the first one joined is not best
        FrescoWall u = new FrescoWall();
        Check.bit(u, "0,0:0;2,0:0;2,1:1;1,1:2;1,2:0;0,2:0", 5, -1, 0);
        Check.bit(u, Check.box(1, 1, "1992"), 5, -1, 0);
        Check.bit(u, Check.box(1, 1, "1333"), 5, -1, 0);
        CHECK.due("one that is not best", u.join(0, 2, 1, 0), 0);
        CHECK.due("best", u.join(0, 3, 1, 3), 1);
        CHECK.due("one that is not best", u.joined(0, 4), 0);
        CHECK.due("best", u.joined(1, 4), 1);
        u.word(0, 0, 0, 0);
        dueProof(u, 1, 1);
        u.unsay(0);
        u.word(1, 0, 0, 0);
        dueProof(u, 0, 1);
    }

    private static void proofRefused() {
        CHECK.of("Promise 25: STATE: it is not PROVED. NONE");
        FrescoWall w = ring(0, 1);
        w.word(0, 0, 0, 0);
        for (int bit : new int[] {-1, 4, 29, 30, 31, 32, Integer.MIN_VALUE, Integer.MAX_VALUE}) {
            CHECK.due("proof of " + bit, w.proof(bit), -1);
        }
        CHECK.due("not proved", w.proof(3), -3);
        CHECK.due("proved", w.proof(0), 0);
        CHECK.due("proved", w.proof(2), 2);
    }

    private static void reasonNone() {
        CHECK.of("Promise 26: JOIN i of its PROOF, from the BIT with a WORD on. NONE");
        FrescoWall w = ring(2, 1, 0);
        w.word(0, 0, 0, 0);
        for (int bit : new int[] {-1, 4, 29, 30, 31, 32, Integer.MIN_VALUE, Integer.MAX_VALUE}) {
            CHECK.due("reason of " + bit, w.reason(bit, 0), -1);
        }
        dueProof(w, 3, 2, 1, 0);
        dueProof(w, 0);
        for (int i : new int[] {-1, 3, 4, Integer.MIN_VALUE, Integer.MAX_VALUE}) {
            CHECK.due("reason " + i, w.reason(3, i), -1);
        }
        w.undo(2);
        CHECK.due("not proved", w.reason(3, 0), -1);
        CHECK.due("not proved", w.reason(1, 0), -1);
    }
}
