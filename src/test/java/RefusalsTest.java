import java.util.ArrayList;
import java.util.List;
import java.util.function.Function;
import java.util.function.Supplier;
import java.util.function.ToIntFunction;

/**
 * Part 9 of the document: a call that is refused changes nothing but THE CLASH, where it tells one.
 * Each refused call is made on a new object of a scene, and all that can be seen of it is compared with what is seen
 * of another new one on which it was not made. As an object has 512 calls, each look of it has an object of its own.
 */
public final class RefusalsTest {
    private static final Check CHECK = new Check("RefusalsTest");
    private static final int NONE = -1, BAD = -2, STATE = -3, FULL = -4, BELOW = -100000;
    private static final int LOWEST = Integer.MIN_VALUE, HIGHEST = Integer.MAX_VALUE;

    public static void main(String[] args) {
        theScenes();
        theFirstOneTold();
        feed();
        bit();
        aboutAndCorner();
        overlap();
        tolerance();
        likeness();
        scoreTurnedAndRival();
        fitsAndFit();
        join();
        undo();
        joinedGroupAndClash();
        word();
        unsay();
        put();
        lift();
        placedAndAt();
        proofAndReason();
        photograph();
        agreeAndBest();
        arrange();
        arranged();
        asked();
        enter();
        box();
        skill();
        shareAndCount();
        clashesOfJoins();
        clashesOfWords();
        clashesOfPuts();
        bitsThatAreNone();
        photographsWithAFault();
        questionsWithAFault();
        clashToldAheadStays();
        CHECK.end();
    }

    // ---- scenes

    /**
     * Bits 0 and 1 stand by a WORD of 0; 2 and 3 were PUT by 3; 4 and 5 are joined, off THE WALL; 6 was joined to 4;
     * 7 has another PLASTER. JOINS 0, 1, 2 are there, 3 is undone. A CLASH 4 was told.
     */
    private static FrescoWall rich() {
        FrescoWall w = new FrescoWall();
        String[] colours = {"0102", "0203", "0304", "0405", "0506", "0607", "0708", "0809"};
        for (int k = 0; k < 8; k++) {
            String spots = k < 2 ? "|0,0=" + (k + 1) + "|0,1=3" : "";
            Check.bit(w, Check.box(1, 2, colours[k]) + spots, 5 + k, k % 5 - 1, k == 7 ? 1 : 0);
        }
        w.likeness(1, 3, 4);
        w.tolerance(1);
        w.join(0, 3, 1, 1);
        w.join(3, 1, 2, 3);
        w.join(4, 3, 5, 1);
        w.join(4, 0, 6, 2);
        w.undo(3);
        w.word(0, 0, 0, 0);
        w.put(3, 1, 10, -5);
        w.word(1, 0, 7, 7);
        Check.photograph(w, "12./.34/3..", -1, -1, 1);
        w.arrange(1 | 4 | 16);
        Check.ask(w, "t>6&t<11");
        w.enter(0, 4, 10);
        w.enter(5, 9, 999);
        w.enter(0, 6, 5);
        w.enter(2, 6, 0);
        w.skill(1, 0, 7);
        w.skill(2, 0, 3);
        w.skill(5, 1, 9);
        Check.feed(w, "t<9|e=");
        return w;
    }

    private static FrescoWall bare() {
        FrescoWall w = Check.squares(3);
        Check.feed(w, "t<9|e=");
        return w;
    }

    private static FrescoWall thirtyBits() {
        FrescoWall w = Check.squares(30);
        Check.feed(w, Check.box(2, 2, "0000"));
        return w;
    }

    private static FrescoWall fullTape() {
        FrescoWall w = new FrescoWall();
        Check.bit(w, Check.box(1, 1, "0000"), 5, -1, 0);
        Check.feed(w, "!t=1&".repeat(47) + "t<9");
        return w;
    }

    /** Sixty JOINS in all; 0 and 1 are joined by the last one, and 2 is off. */
    private static FrescoWall sixtyJoins() {
        FrescoWall w = Check.squares(4);
        for (int k = 0; k < 59; k++) {
            w.join(0, k & 3, 1, 0);
            w.undo(k);
        }
        w.join(0, 1, 1, 3);
        w.word(0, 0, 0, 0);
        w.put(2, 0, 20, 20);
        return w;
    }

    private static FrescoWall hundredEntries() {
        FrescoWall w = Check.squares(3);
        for (int k = 0; k < 100; k++) {
            w.enter(k % 3, k % 11 - 1, k);
        }
        return w;
    }

    private static void dueRow(String what, FrescoWall w, int... due) {
        for (int k = 0; k < due.length; k++) {
            CHECK.due(what + ": count(" + k + ")", w.count(k), due[k]);
        }
    }

    /** What is in the scenes, lest the looks have nothing to see. */
    private static void theScenes() {
        FrescoWall w = rich();
        dueRow("rich", w, 8, 3, 5, 4, 1, 2, 4, 6, 4);
        CHECK.due("a CLASH", w.clash(0), 4);
        CHECK.due("its JOIN", w.clash(10), 0);
        CHECK.due("a PHOTOGRAPH", w.best(0, 0), 2);
        CHECK.due("an ARRANGEMENT", w.arranged(4, 2) > BELOW ? 1 : 0, 1);
        CHECK.due("a QUESTION", w.asked(3), 5);
        CHECK.due("a SHARING", w.share(-1), 10);
        CHECK.due("a TOLERANCE", w.tolerance(0), 1);
        CHECK.due("a LIKENESS", w.likeness(3, 1, 0), 4);
        dueRow("bare", bare(), 3, 0, 3, 0, 0, 0, 0, 6, 0);
        dueRow("thirty bits", thirtyBits(), 30, 0, 30, 0, 0, 0, 0, 23, 0);
        dueRow("a full tape", fullTape(), 1, 0, 1, 0, 0, 0, 0, 238, 0);
        dueRow("sixty joins", sixtyJoins(), 4, 1, 3, 3, 1, 1, 0, 0, 60);
        dueRow("a hundred entries", hundredEntries(), 3, 0, 3, 0, 0, 0, 100, 0, 0);
        dueRow("on the wall", squaresOnTheWall(), 8, 4, 4, 7, 1, 1, 0, 6, 4);
    }

    // ---- looks

    private static final List<Function<FrescoWall, List<Integer>>> LOOKS = List.of(
        RefusalsTest::lookAtBits, RefusalsTest::lookAtFits, RefusalsTest::lookAtLikeness, RefusalsTest::lookAtJoins,
        RefusalsTest::lookAtTheWall, RefusalsTest::lookAtThePhotograph, RefusalsTest::lookAtQuestions,
        RefusalsTest::lookAtBoxes, RefusalsTest::lookAtSkills, RefusalsTest::lookAtWhatComesNext);

    private static List<Integer> lookAtBits(FrescoWall w) {
        List<Integer> seen = new ArrayList<>();
        for (int what = 0; what <= 8; what++) {
            seen.add(w.count(what));
        }
        for (int bit = 0; bit < 9; bit++) {
            for (int what = 0; what <= 6; what++) {
                seen.add(w.about(bit, what));
            }
            for (int k = 0; k < 4; k++) {
                for (int what = 0; what <= 2; what++) {
                    seen.add(w.corner(bit, k, what));
                }
            }
        }
        return seen;
    }

    private static List<Integer> lookAtFits(FrescoWall w) {
        List<Integer> seen = new ArrayList<>();
        for (int bit = 0; bit < 8; bit++) {
            for (int edge = 0; edge < 4; edge++) {
                seen.add(w.fits(bit, edge));
                seen.add(w.fit(bit, edge, 0));
                seen.add(w.fit(bit, edge, 1));
            }
            seen.add(w.score(bit, 1, (bit + 1) % 8, 3));
            seen.add(w.turned(bit, 1, (bit + 1) % 8, 3, 1));
            seen.add(w.rival(bit, 0, (bit + 2) % 8, 2));
            seen.add(w.overlap(bit, (bit + 1) % 8, 1, 1, 0));
        }
        seen.add(w.tolerance(0));
        return seen;
    }

    private static List<Integer> lookAtLikeness(FrescoWall w) {
        List<Integer> seen = new ArrayList<>();
        for (int a = 0; a <= 9; a++) {
            for (int b = 0; b <= 9; b++) {
                seen.add(w.likeness(a, b, a == b ? 9 : 0));
            }
        }
        return seen;
    }

    private static List<Integer> lookAtJoins(FrescoWall w) {
        List<Integer> seen = new ArrayList<>();
        for (int join = 0; join < 60; join = join < 4 || join > 56 ? join + 1 : 57) {
            for (int what = 0; what <= 4; what++) {
                seen.add(w.joined(join, what));
            }
        }
        for (int bit = 0; bit < 8; bit++) {
            for (int what = 0; what <= 2; what++) {
                seen.add(w.group(bit, what));
            }
            seen.add(w.proof(bit));
            seen.add(w.reason(bit, 0));
            seen.add(w.reason(bit, 1));
        }
        return seen;
    }

    private static List<Integer> lookAtTheWall(FrescoWall w) {
        List<Integer> seen = new ArrayList<>();
        for (int bit = 0; bit < 8; bit++) {
            for (int what = 0; what <= 3; what++) {
                seen.add(w.placed(bit, what));
            }
        }
        for (int x = -3; x <= 13; x++) {
            for (int y = -6; y <= 3; y++) {
                seen.add(w.at(x, y));
            }
        }
        seen.add(w.at(20, 20));
        seen.add(w.at(21, 20));
        return seen;
    }

    private static List<Integer> lookAtThePhotograph(FrescoWall w) {
        List<Integer> seen = new ArrayList<>();
        for (int bit = 0; bit < 3; bit++) {
            for (int what = 0; what <= 4; what++) {
                seen.add(w.best(bit, what));
            }
            for (int x = -4; x <= 5; x++) {
                for (int y = -4; y <= 5; y++) {
                    seen.add(w.agree(bit, 0, x, y));
                }
            }
        }
        return seen;
    }

    private static List<Integer> lookAtQuestions(FrescoWall w) {
        List<Integer> seen = new ArrayList<>();
        for (int i = 0; i < 9; i++) {
            seen.add(w.asked(i));
            for (int what = 0; what <= 2; what++) {
                seen.add(w.arranged(i, what));
            }
        }
        // what the tape has, by what it asks
        seen.add(w.feed('4', 1));
        seen.add(w.ask());
        for (int i = 0; i < 9; i++) {
            seen.add(w.asked(i));
        }
        return seen;
    }

    private static List<Integer> lookAtBoxes(FrescoWall w) {
        List<Integer> seen = new ArrayList<>();
        int[] days = {0, 5, 10, 98, 99, 999};
        for (int bit = 0; bit < 8; bit++) {
            for (int day : days) {
                for (int entries : new int[] {0, 1, 3, 4, 99, 100}) {
                    seen.add(w.box(bit, day, entries));
                }
            }
        }
        return seen;
    }

    private static List<Integer> lookAtSkills(FrescoWall w) {
        List<Integer> seen = new ArrayList<>();
        for (int hand = -1; hand < 6; hand++) {
            seen.add(w.share(hand));
        }
        for (int hand = 0; hand < 6; hand++) {
            for (int plaster = 0; plaster <= 9; plaster++) {
                seen.add(w.skill(hand, plaster, 0));
            }
        }
        return seen;
    }

    /** Calls that are good: they go on as if nothing had been. */
    private static List<Integer> lookAtWhatComesNext(FrescoWall w) {
        List<Integer> seen = new ArrayList<>();
        seen.add(w.enter(1, 2, 3));
        seen.add(w.feed(';', 1));
        seen.add(w.bit(5, 0, 0));
        seen.add(Check.bit(w, Check.box(3, 1, "5555"), 5, 0, 0));
        seen.add(w.join(2, 1, 1, 3));
        seen.add(w.join(4, 1, 6, 3));
        seen.add(w.put(4, 1, 40, 40));
        seen.add(w.unsay(0));
        seen.add(w.undo(1));
        seen.add(w.arrange(3));
        seen.addAll(lookAtTheWall(w));
        return seen;
    }

    private static List<Integer> lookAtTheClash(FrescoWall w) {
        List<Integer> seen = new ArrayList<>();
        for (int what = 0; what <= 3; what++) {
            seen.add(w.clash(what));
        }
        for (int i = 10; i <= 13; i++) {
            seen.add(w.clash(i));
        }
        return seen;
    }

    // ---- how a refused call is compared

    private static int firstOther(List<Integer> one, List<Integer> two) {
        for (int k = 0; k < one.size() && k < two.size(); k++) {
            if (!one.get(k).equals(two.get(k))) {
                return k;
            }
        }
        return one.size() == two.size() ? -1 : Math.min(one.size(), two.size());
    }

    private static void same(String call, Supplier<FrescoWall> made, Supplier<FrescoWall> plain, boolean clashToo) {
        for (int look = 0; look < LOOKS.size(); look++) {
            List<Integer> seen = LOOKS.get(look).apply(made.get());
            CHECK.due(call + ": the first other thing of look " + look, firstOther(seen, LOOKS.get(look).apply(plain.get())), -1);
        }
        if (clashToo) {
            CHECK.due(call + ": THE CLASH", firstOther(lookAtTheClash(made.get()), lookAtTheClash(plain.get())), -1);
        }
    }

    private static void refused(String call, Supplier<FrescoWall> scene, int due, ToIntFunction<FrescoWall> refusal) {
        CHECK.due(call, refusal.applyAsInt(scene.get()), due);
        same(call, () -> {
            FrescoWall w = scene.get();
            refusal.applyAsInt(w);
            return w;
        }, scene, true);
    }

    private static void refused(String call, int due, ToIntFunction<FrescoWall> refusal) {
        refused(call, RefusalsTest::rich, due, refusal);
    }

    /** A call that is refused with a CLASH changes that one alone. */
    private static void clashes(String call, Supplier<FrescoWall> scene, int kind, ToIntFunction<FrescoWall> refusal) {
        FrescoWall told = scene.get();
        CHECK.due(call, refusal.applyAsInt(told), -10 - kind);
        CHECK.due(call + ": THE CLASH", told.clash(0), kind);
        same(call, () -> {
            FrescoWall w = scene.get();
            refusal.applyAsInt(w);
            return w;
        }, scene, false);
    }

    /** A call that reads THE TAPE and finds it wrong changes that one alone: it is empty then. */
    private static void empties(String text, int due, ToIntFunction<FrescoWall> reading) {
        Supplier<FrescoWall> scene = () -> {
            FrescoWall w = rich();
            // what the scene's tape had is gone by a FAULT at its end
            w.ask();
            return w;
        };
        Supplier<FrescoWall> made = () -> {
            FrescoWall w = scene.get();
            Check.feed(w, text);
            reading.applyAsInt(w);
            return w;
        };
        FrescoWall w = scene.get();
        Check.feed(w, text);
        CHECK.due(text, reading.applyAsInt(w), due);
        CHECK.due(text + ": bytes of THE TAPE", w.count(7), 0);
        same(text, made, scene, true);
    }

    private static void theFirstOneTold() {
        CHECK.of("9: REFUSALS, of several the first one told: NONE; BAD; STATE; FULL");
        FrescoWall rich = rich();
        CHECK.due("overlap: NONE, BAD", rich.overlap(0, 8, 4, 501, 501), NONE);
        CHECK.due("likeness: NONE, BAD", rich.likeness(10, 0, 10), NONE);
        CHECK.due("score: NONE, BAD", rich.score(0, 4, 0, 0), NONE);
        CHECK.due("score: BAD, STATE", rich.score(0, 0, 0, 0), BAD);
        CHECK.due("rival: NONE, BAD", rich.rival(0, 0, 0, 4), NONE);
        CHECK.due("rival: BAD, STATE", rich.rival(0, 0, 0, 2), BAD);
        CHECK.due("join: NONE, BAD", rich.join(0, 4, 0, 0), NONE);
        CHECK.due("join: BAD, STATE", rich.join(0, 3, 0, 3), BAD);
        CHECK.due("join: STATE, a CLASH", rich.join(0, 3, 1, 1), STATE);
        CHECK.due("word: NONE, BAD", rich.word(8, 4, 501, 501), NONE);
        CHECK.due("word: BAD, a CLASH", rich.word(1, 0, 7, 501), BAD);
        CHECK.due("put: NONE, BAD", rich.put(8, 4, 501, 501), NONE);
        CHECK.due("put: BAD, STATE", rich.put(0, 4, 0, 0), BAD);
        CHECK.due("put: STATE, a CLASH", rich.put(0, 0, 10, -5), STATE);
        CHECK.due("agree: NONE, BAD", rich.agree(8, 4, 501, 501), NONE);
        CHECK.due("enter: NONE, BAD", rich.enter(8, 0, 1000), NONE);
        CHECK.due("enter: NONE, BAD", rich.enter(0, 10, 1000), NONE);
        CHECK.due("box: NONE, BAD", rich.box(8, 1000, 0), NONE);
        CHECK.due("box: NONE, BAD", rich.box(0, 1000, 5), NONE);
        CHECK.due("box: NONE, BAD", rich.box(0, -1, -1), NONE);
        CHECK.due("skill: NONE, BAD", rich.skill(6, 0, 10), NONE);
        CHECK.due("skill: NONE, BAD", rich.skill(0, 10, 10), NONE);
        CHECK.due("best: -100000, -100001", rich.best(2, 5), BELOW);
        CHECK.due("photograph: BAD, a FAULT", rich.photograph(0, 0, 4), BAD);
        CHECK.due("bit: BAD, a FAULT", rich.bit(0, 0, 0), BAD);
        FrescoWall bare = bare();
        CHECK.due("agree: NONE, STATE", bare.agree(3, 0, 0, 0), NONE);
        CHECK.due("agree: NONE, BAD, STATE", bare.agree(3, 0, 501, 0), NONE);
        CHECK.due("agree: BAD, STATE", bare.agree(0, 0, 501, 0), BAD);
        CHECK.due("best: -100000, -100001", bare.best(3, 0), BELOW);
        CHECK.due("feed: BAD, FULL", fullTape().feed(0, 9), BAD);
        CHECK.due("bit: BAD, FULL", thirtyBits().bit(5, 0, 10), BAD);
        FrescoWall bits = thirtyBits();
        Check.feed(bits, "x");
        CHECK.due("bit: FULL, a FAULT", bits.bit(5, 0, 0), FULL);
        FrescoWall joins = sixtyJoins();
        CHECK.due("join: NONE, FULL", joins.join(0, 0, 4, 0), NONE);
        CHECK.due("join: BAD, FULL", joins.join(0, 0, 0, 1), BAD);
        CHECK.due("join: STATE, FULL", joins.join(0, 1, 2, 0), STATE);
        CHECK.due("join: FULL, a CLASH", joins.join(0, 0, 1, 0), FULL);
        FrescoWall entries = hundredEntries();
        CHECK.due("enter: NONE, FULL", entries.enter(3, 0, 0), NONE);
        CHECK.due("enter: NONE, BAD, FULL", entries.enter(0, 10, 1000), NONE);
        CHECK.due("enter: BAD, FULL", entries.enter(0, 0, 1000), BAD);
    }

    // ---- the calls

    private static void feed() {
        CHECK.of("9: They change nothing (feed: BAD, FULL)");
        for (int n : new int[] {0, -1, 9, 10, LOWEST, HIGHEST}) {
            refused("feed of " + n, BAD, w -> w.feed(0x74, n));
            refused("feed of " + n + " at the end", RefusalsTest::fullTape, BAD, w -> w.feed(0x74, n));
        }
        for (int n : new int[] {3, 4, 8}) {
            refused("feed of " + n + " at the end", RefusalsTest::fullTape, FULL, w -> w.feed(0x20, n));
        }
        CHECK.due("what there is room for", fullTape().feed(0x2020, 2), 240);
    }

    private static void bit() {
        CHECK.of("9: They change nothing; Promise 3: (THE TAPE stays with both) (bit: BAD, FULL)");
        for (int thick : new int[] {0, 100, -1, LOWEST, HIGHEST}) {
            refused("thick " + thick, BAD, w -> w.bit(thick, 0, 0));
            refused("thick " + thick + " when full", RefusalsTest::thirtyBits, BAD, w -> w.bit(thick, 0, 0));
        }
        for (int straw : new int[] {-2, 4, LOWEST, HIGHEST}) {
            refused("straw " + straw, BAD, w -> w.bit(5, straw, 0));
        }
        for (int plaster : new int[] {-1, 10, LOWEST, HIGHEST}) {
            refused("plaster " + plaster, BAD, w -> w.bit(5, 0, plaster));
        }
        refused("one too many", RefusalsTest::thirtyBits, FULL, w -> w.bit(5, 0, 0));
        FrescoWall w = thirtyBits();
        w.bit(5, 0, 0);
        w.bit(0, 0, 0);
        CHECK.due("THE TAPE stays", w.count(7), 23);
        CHECK.due("THE TAPE is as it was", w.ask(), -10);
    }

    private static void aboutAndCorner() {
        CHECK.of("9: -100000: NONE, of what may be below 0 (about, corner)");
        for (int no : new int[] {-1, 8, 30, 32, LOWEST, HIGHEST}) {
            refused("about " + no, BELOW, w -> w.about(no, 0));
            refused("corner of " + no, BELOW, w -> w.corner(no, 0, 0));
        }
        refused("about 7", BELOW, w -> w.about(0, 7));
        refused("about -1", BELOW, w -> w.about(0, -1));
        refused("corner 4", BELOW, w -> w.corner(0, 4, 0));
        refused("corner -1", BELOW, w -> w.corner(0, -1, 0));
        refused("corner's 3", BELOW, w -> w.corner(0, 3, 3));
    }

    private static void overlap() {
        CHECK.of("9: They change nothing (overlap: NONE, BAD)");
        refused("no second", NONE, w -> w.overlap(0, 8, 0, 0, 0));
        refused("no first", NONE, w -> w.overlap(-1, 0, 0, 0, 0));
        refused("NONE ahead of BAD", NONE, w -> w.overlap(8, 8, 4, 501, 0));
        refused("one BIT", BAD, w -> w.overlap(3, 3, 0, 0, 0));
        refused("t", BAD, w -> w.overlap(0, 1, 4, 0, 0));
        refused("x", BAD, w -> w.overlap(0, 1, 0, 501, 0));
        refused("y", BAD, w -> w.overlap(0, 1, 0, 0, -501));
    }

    private static void tolerance() {
        CHECK.of("9: They change nothing (tolerance: BAD)");
        for (int n : new int[] {-1, 31, LOWEST, HIGHEST}) {
            refused("tolerance " + n, BAD, w -> w.tolerance(n));
        }
    }

    private static void likeness() {
        CHECK.of("9: They change nothing (likeness: NONE, BAD)");
        for (int no : new int[] {-1, 10, LOWEST, HIGHEST}) {
            refused("a " + no, NONE, w -> w.likeness(no, 3, 5));
            refused("b " + no, NONE, w -> w.likeness(3, no, 5));
            refused("n " + no, BAD, w -> w.likeness(1, 3, no));
            refused("NONE ahead of BAD", NONE, w -> w.likeness(1, no, no));
        }
    }

    private static void scoreTurnedAndRival() {
        CHECK.of("9: They change nothing (score, turned, rival: NONE, BAD, STATE)");
        refused("score", NONE, w -> w.score(0, 0, 8, 0));
        refused("score", NONE, w -> w.score(0, 4, 0, 0));
        refused("score", BAD, w -> w.score(0, 0, 0, 2));
        refused("score", STATE, w -> w.score(0, 0, 7, 2));
        refused("score", STATE, w -> w.score(0, 0, 1, 1));
        refused("turned", BELOW, w -> w.turned(0, 0, 8, 0, 0));
        refused("turned", BELOW, w -> w.turned(0, 0, 0, 2, 0));
        refused("turned", BELOW, w -> w.turned(0, 0, 7, 2, 0));
        refused("turned", BELOW, w -> w.turned(0, 0, 1, 2, 3));
        refused("rival", NONE, w -> w.rival(0, -1, 1, 0));
        refused("rival", NONE, w -> w.rival(0, 4, 0, 0));
        refused("rival", BAD, w -> w.rival(0, 0, 0, 2));
        refused("rival", STATE, w -> w.rival(0, 0, 7, 2));
    }

    private static void fitsAndFit() {
        CHECK.of("9: They change nothing (fits, fit: NONE)");
        refused("fits", NONE, w -> w.fits(8, 0));
        refused("fits", NONE, w -> w.fits(0, 4));
        refused("fit", NONE, w -> w.fit(8, 0, 0));
        refused("fit", NONE, w -> w.fit(0, 4, 0));
        refused("fit", NONE, w -> w.fit(0, 0, -1));
        refused("fit", NONE, w -> w.fit(7, 0, 0));
    }

    private static void join() {
        CHECK.of("9: They change nothing (join: NONE, BAD, STATE, FULL)");
        refused("no BIT", NONE, w -> w.join(0, 0, 8, 0));
        refused("no EDGE", NONE, w -> w.join(0, 0, 1, 4));
        refused("NONE ahead of BAD", NONE, w -> w.join(0, 0, 0, 4));
        refused("one BIT", BAD, w -> w.join(0, 0, 0, 2));
        refused("no FIT", STATE, w -> w.join(0, 0, 1, 1));
        refused("another PLASTER", STATE, w -> w.join(6, 3, 7, 1));
        refused("a's EDGE is in one", STATE, w -> w.join(0, 3, 4, 1));
        refused("b's EDGE is in one", STATE, w -> w.join(4, 1, 0, 3));
        refused("that one again", STATE, w -> w.join(0, 3, 1, 1));
        Supplier<FrescoWall> full = RefusalsTest::sixtyJoins;
        refused("one too many", full, FULL, w -> w.join(1, 1, 3, 3));
        refused("one too many, ahead of a CLASH", full, FULL, w -> w.join(1, 1, 2, 3));
        refused("STATE ahead of FULL", full, STATE, w -> w.join(0, 1, 3, 3));
        refused("BAD ahead of FULL", full, BAD, w -> w.join(3, 1, 3, 3));
        refused("NONE ahead of FULL", full, NONE, w -> w.join(3, 1, 4, 3));
    }

    private static void undo() {
        CHECK.of("9: They change nothing (undo: NONE)");
        for (int join : new int[] {-1, 3, 4, 59, 60, 63, 64, LOWEST, HIGHEST}) {
            refused("undo " + join, NONE, w -> w.undo(join));
        }
    }

    private static void joinedGroupAndClash() {
        CHECK.of("9: They change nothing (joined, group, clash: NONE)");
        refused("joined", NONE, w -> w.joined(3, 0));
        refused("joined", NONE, w -> w.joined(4, 0));
        refused("joined", NONE, w -> w.joined(0, 5));
        refused("group", NONE, w -> w.group(8, 0));
        refused("group", NONE, w -> w.group(0, 3));
        refused("clash", NONE, w -> w.clash(4));
        refused("clash", NONE, w -> w.clash(9));
        refused("clash", NONE, w -> w.clash(11));
        refused("clash", NONE, w -> w.clash(-1));
        refused("no clash", RefusalsTest::bare, NONE, w -> w.clash(0));
    }

    private static void word() {
        CHECK.of("9: They change nothing (word: NONE, BAD)");
        for (int bit : new int[] {-1, 8, 30, 32, LOWEST, HIGHEST}) {
            refused("word of " + bit, NONE, w -> w.word(bit, 0, 50, 50));
        }
        for (int bit = 0; bit < 8; bit += 2) {
            int one = bit;
            refused("t", BAD, w -> w.word(one, 4, 50, 50));
            refused("t", BAD, w -> w.word(one, -1, 50, 50));
            refused("x", BAD, w -> w.word(one, 1, 501, 50));
            refused("y", BAD, w -> w.word(one, 1, 50, -501));
        }
    }

    private static void unsay() {
        CHECK.of("9: They change nothing (unsay: NONE, STATE)");
        refused("unsay", NONE, w -> w.unsay(-1));
        refused("unsay", NONE, w -> w.unsay(8));
        for (int bit = 1; bit < 8; bit++) {
            int one = bit;
            refused("unsay of " + bit, STATE, w -> w.unsay(one));
        }
    }

    private static void put() {
        CHECK.of("9: They change nothing (put: NONE, BAD, STATE)");
        refused("put", NONE, w -> w.put(8, 0, 50, 50));
        refused("put", NONE, w -> w.put(-1, 4, 50, 50));
        refused("put", BAD, w -> w.put(3, 4, 50, 50));
        refused("put", BAD, w -> w.put(0, 0, 501, 50));
        refused("put", BAD, w -> w.put(4, 0, 50, -501));
        refused("put", STATE, w -> w.put(0, 0, 50, 50));
        refused("put", STATE, w -> w.put(1, 0, 50, 50));
        refused("put", STATE, w -> w.put(0, 0, 0, 0));
    }

    private static void lift() {
        CHECK.of("9: They change nothing (lift: NONE, STATE)");
        refused("lift", NONE, w -> w.lift(8));
        refused("lift", NONE, w -> w.lift(-1));
        for (int bit : new int[] {0, 1, 4, 5, 6, 7}) {
            refused("lift of " + bit, STATE, w -> w.lift(bit));
        }
    }

    private static void placedAndAt() {
        CHECK.of("9: -100000: NONE (placed); NONE (at)");
        refused("placed", BELOW, w -> w.placed(8, 0));
        refused("placed", BELOW, w -> w.placed(4, 0));
        refused("placed", BELOW, w -> w.placed(0, 4));
        refused("placed", BELOW, w -> w.placed(0, -1));
        refused("at", NONE, w -> w.at(100, 100));
        refused("at", NONE, w -> w.at(LOWEST, HIGHEST));
    }

    private static void proofAndReason() {
        CHECK.of("9: They change nothing (proof: NONE, STATE; reason: NONE)");
        refused("proof", NONE, w -> w.proof(8));
        refused("proof", STATE, w -> w.proof(4));
        refused("proof", STATE, w -> w.proof(2));
        refused("reason", NONE, w -> w.reason(8, 0));
        refused("reason", NONE, w -> w.reason(0, 0));
        refused("reason", NONE, w -> w.reason(1, 1));
        refused("reason", NONE, w -> w.reason(1, -1));
    }

    private static void photograph() {
        CHECK.of("9: They change nothing; Promise 27: (THE TAPE stays) (photograph: BAD)");
        for (int far : new int[] {501, -501, LOWEST, HIGHEST}) {
            refused("x " + far, BAD, w -> w.photograph(far, 0, 0));
            refused("y " + far, BAD, w -> w.photograph(0, far, 0));
        }
        for (int doubt : new int[] {-1, 4, LOWEST, HIGHEST}) {
            refused("doubt " + doubt, BAD, w -> w.photograph(0, 0, doubt));
        }
    }

    private static void agreeAndBest() {
        CHECK.of("9: They change nothing (agree: NONE, BAD, STATE; best: -100000, -100001)");
        refused("agree", NONE, w -> w.agree(8, 0, 0, 0));
        refused("agree", BAD, w -> w.agree(0, 4, 0, 0));
        refused("agree", BAD, w -> w.agree(0, 0, 501, 0));
        refused("agree", BAD, w -> w.agree(0, 0, 0, -501));
        refused("agree", RefusalsTest::bare, STATE, w -> w.agree(0, 0, 0, 0));
        refused("agree", RefusalsTest::bare, BAD, w -> w.agree(0, 4, 0, 0));
        refused("agree", RefusalsTest::bare, NONE, w -> w.agree(3, 4, 0, 0));
        refused("best", BELOW, w -> w.best(8, 0));
        refused("best", BELOW, w -> w.best(0, 5));
        refused("best", BELOW, w -> w.best(0, -1));
        refused("best", -100001, w -> w.best(2, 0));
        refused("best", RefusalsTest::bare, -100001, w -> w.best(0, 0));
    }

    private static void arrange() {
        CHECK.of("9: They change nothing (arrange: BAD); Promise 31: the latest arrange() that told a WORTH");
        for (int set : new int[] {0, 1, 15, 1 | 1 << 8, 3 | 1 << 30, 3 | 1 << 31, -1, LOWEST}) {
            refused("arrange of " + set, BAD, w -> w.arrange(set));
        }
        refused("there is none", -5, w -> w.arrange(1 | 1 << 7));
        refused("there is none", -5, w -> w.arrange(3 | 1 << 7));
    }

    private static void arranged() {
        CHECK.of("9: -100000: NONE (arranged)");
        refused("arranged", BELOW, w -> w.arranged(1, 0));
        refused("arranged", BELOW, w -> w.arranged(8, 0));
        refused("arranged", BELOW, w -> w.arranged(0, 3));
        refused("arranged", RefusalsTest::bare, BELOW, w -> w.arranged(0, 0));
    }

    private static void asked() {
        CHECK.of("9: They change nothing (asked: NONE)");
        refused("asked", NONE, w -> w.asked(4));
        refused("asked", NONE, w -> w.asked(-1));
        refused("asked", RefusalsTest::bare, NONE, w -> w.asked(0));
    }

    private static void enter() {
        CHECK.of("9: They change nothing (enter: NONE, BAD, FULL)");
        refused("enter", NONE, w -> w.enter(8, 0, 0));
        refused("enter", NONE, w -> w.enter(-1, 0, 1000));
        refused("enter", NONE, w -> w.enter(0, 10, 0));
        refused("enter", NONE, w -> w.enter(0, -2, 0));
        refused("enter", BAD, w -> w.enter(0, 0, 1000));
        refused("enter", BAD, w -> w.enter(0, 0, -1));
        Supplier<FrescoWall> full = RefusalsTest::hundredEntries;
        refused("one too many", full, FULL, w -> w.enter(0, 0, 0));
        refused("one too many", full, FULL, w -> w.enter(2, 9, 999));
        refused("BAD ahead of FULL", full, BAD, w -> w.enter(2, 9, 1000));
        refused("NONE ahead of FULL", full, NONE, w -> w.enter(3, 9, 999));
        refused("NONE ahead of FULL", full, NONE, w -> w.enter(2, 10, 999));
    }

    private static void box() {
        CHECK.of("9: They change nothing (box: NONE, BAD)");
        refused("box", NONE, w -> w.box(8, 0, 0));
        refused("box", NONE, w -> w.box(0, 0, 5));
        refused("box", NONE, w -> w.box(0, 0, -1));
        refused("box", BAD, w -> w.box(0, 1000, 4));
        refused("box", BAD, w -> w.box(0, -1, 0));
    }

    private static void skill() {
        CHECK.of("9: They change nothing (skill: NONE, BAD)");
        refused("skill", NONE, w -> w.skill(6, 0, 5));
        refused("skill", NONE, w -> w.skill(-1, 0, 5));
        refused("skill", NONE, w -> w.skill(1, 10, 5));
        refused("skill", NONE, w -> w.skill(1, -1, 5));
        refused("skill", NONE, w -> w.skill(6, 10, 10));
        refused("skill", BAD, w -> w.skill(1, 0, 10));
        refused("skill", BAD, w -> w.skill(1, 0, -1));
    }

    private static void shareAndCount() {
        CHECK.of("9: -100000: NONE (share); NONE (count)");
        refused("share", BELOW, w -> w.share(-2));
        refused("share", BELOW, w -> w.share(6));
        refused("count", NONE, w -> w.count(-1));
        refused("count", NONE, w -> w.count(9));
    }

    // ---- CLASHES

    /** 0, 1 and 2 hang in a row and 3 stands on 0; 4 and 5 are another row. */
    private static FrescoWall squaresInRows() {
        FrescoWall w = Check.squares(8);
        w.join(0, 1, 1, 3);
        w.join(1, 1, 2, 3);
        w.join(0, 2, 3, 0);
        w.join(4, 1, 5, 3);
        Check.feed(w, "t<9|e=");
        return w;
    }

    private static FrescoWall squaresOnTheWall() {
        FrescoWall w = squaresInRows();
        w.word(1, 0, 5, 5);
        w.put(5, 0, 40, 40);
        w.put(7, 0, 5, 4);
        return w;
    }

    private static void clashesOfJoins() {
        CHECK.of("9: They change nothing but THE CLASH, where they tell one (join)");
        for (Supplier<FrescoWall> scene : List.<Supplier<FrescoWall>>of(
                RefusalsTest::squaresInRows, RefusalsTest::squaresOnTheWall)) {
            clashes("in one GROUP, otherwise", scene, 1, w -> w.join(3, 1, 2, 1));
            clashes("in one GROUP, otherwise", scene, 1, w -> w.join(2, 2, 3, 1));
            clashes("an OVERLAP of the two", scene, 2, w -> w.join(3, 1, 4, 0));
            clashes("an OVERLAP of the two", scene, 2, w -> w.join(4, 0, 3, 1));
        }
        clashes("both on THE WALL", RefusalsTest::squaresOnTheWall, 3, w -> w.join(2, 1, 4, 3));
        clashes("both on THE WALL", RefusalsTest::squaresOnTheWall, 3, w -> w.join(4, 3, 2, 1));
        clashes("an OVERLAP on THE WALL", RefusalsTest::squaresOnTheWall, 5, w -> w.join(6, 3, 1, 0));
        clashes("an OVERLAP on THE WALL", RefusalsTest::squaresOnTheWall, 5, w -> w.join(1, 0, 6, 1));
    }

    private static void clashesOfWords() {
        CHECK.of("9: They change nothing but THE CLASH, where they tell one (word)");
        Supplier<FrescoWall> scene = RefusalsTest::squaresOnTheWall;
        clashes("otherwise", scene, 4, w -> w.word(0, 0, 0, 0));
        clashes("otherwise", scene, 4, w -> w.word(3, 1, 5, 6));
        clashes("an OVERLAP", scene, 5, w -> w.word(1, 0, 40, 40));
        clashes("an OVERLAP", scene, 5, w -> w.word(6, 0, 5, 5));
        clashes("an OVERLAP", scene, 5, w -> w.word(4, 0, 5, 5));
    }

    private static void clashesOfPuts() {
        CHECK.of("9: They change nothing but THE CLASH, where they tell one (put)");
        Supplier<FrescoWall> scene = RefusalsTest::squaresOnTheWall;
        clashes("an OVERLAP", scene, 5, w -> w.put(6, 0, 5, 5));
        clashes("an OVERLAP", scene, 5, w -> w.put(4, 0, 4, 5));
        clashes("an OVERLAP", scene, 5, w -> w.put(7, 2, 41, 41));
    }

    private static void clashToldAheadStays() {
        CHECK.of("9: THE CLASH, where they tell one: a call that tells none leaves it");
        FrescoWall w = squaresOnTheWall();
        CHECK.due("an OVERLAP", w.put(6, 0, 5, 5), -15);
        List<Integer> told = lookAtTheClash(w);
        CHECK.due("good", w.put(6, 0, 50, 50), 1);
        CHECK.due("STATE", w.put(1, 0, 50, 50), STATE);
        CHECK.due("BAD", w.word(1, 4, 50, 50), BAD);
        CHECK.due("NONE", w.join(1, 4, 2, 2), NONE);
        CHECK.due("good", w.undo(3), 2);
        CHECK.due("it stays", firstOther(lookAtTheClash(w), told), -1);
        CHECK.due("otherwise", w.word(0, 0, 0, 0), -14);
        CHECK.due("another one", w.clash(0), 4);
    }

    // ---- readings that fail

    private static void bitsThatAreNone() {
        CHECK.of("Promise 3: THE TAPE, which is empty then: -10 less the FAULT; -5: it is no RING; -6: a SPOT is none");
        ToIntFunction<FrescoWall> reading = w -> w.bit(5, 0, 0);
        empties("", -10, reading);
        empties("0,0:1;1,0:1;0,1:x", -26, reading);
        empties("0,0:1;1,0:1;0,1:", -26, reading);
        empties("0,0:1;0,1:1;1,0:1", -5, reading);
        empties(Check.box(1, 1, "1111") + "|1,0=3", -6, reading);
    }

    private static void photographsWithAFault() {
        CHECK.of("Promise 27: THE TAPE, which is empty then; -10 less the FAULT");
        ToIntFunction<FrescoWall> reading = w -> w.photograph(3, 3, 0);
        empties("", -10, reading);
        empties("12/3", -14, reading);
        empties("12/3x", -14, reading);
        empties("12/345", -15, reading);
    }

    private static void questionsWithAFault() {
        CHECK.of("Promise 32: THE TAPE, which is empty then (by a FAULT, too); -10 less the FAULT");
        ToIntFunction<FrescoWall> reading = FrescoWall::ask;
        empties("", -10, reading);
        empties("t>1|", -14, reading);
        empties("t>1)", -13, reading);
        empties("(v=1", -14, reading);
    }
}
