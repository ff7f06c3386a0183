/** Part 8 of the document and promises 34 to 38, sentence by sentence: just inside each bound and just outside it. */
public final class BoundBoxesTest {
    private static final Check CHECK = new Check("BoundBoxesTest");
    private static final int BELOW = -100000;
    private static final int[] NO_BITS = {-1, 2, 29, 30, 31, 32, Integer.MIN_VALUE, Integer.MAX_VALUE};
    private static final int[] NO_DAYS = {-1, 1000, Integer.MIN_VALUE, Integer.MAX_VALUE};

    public static void main(String[] args) {
        boxesFromNoughtToNine();
        inNoBox();
        enterNone();
        daysFromNoughtOn();
        aHundredEntries();
        fullComesLast();
        whichEntriesAreKnown();
        entriesBelowNone();
        moreEntriesThanThereAre();
        boxNone();
        boxBad();
        thatDayOrLess();
        theGreatestDay();
        theLatestEntered();
        noneOfThem();
        entriesOfTheBit();
        now();
        skillNone();
        skillBad();
        skillAtFirst();
        skillOfEach();
        shareNone();
        oneBoxAtMost();
        oneHandAtMost();
        worthOfAllBits();
        worthNow();
        mostTogether();
        leastBoxOfHandNought();
        thenHandOne();
        noBoxesLeft();
        countNone();
        countBits();
        countJoins();
        countGroups();
        countOnTheWall();
        countWords();
        countProved();
        countEntries();
        countTape();
        CHECK.end();
    }

    /** A bit for each of these plasters. */
    private static FrescoWall bits(int... plasters) {
        FrescoWall w = new FrescoWall();
        for (int plaster : plasters) {
            Check.bit(w, Check.box(1, 1, "0000"), 5, -1, plaster);
        }
        return w;
    }

    private static void boxesFromNoughtToNine() {
        CHECK.of("8: BOXES 0 .. 9");
        FrescoWall w = bits(0, 0);
        for (int box = 0; box <= 9; box++) {
            CHECK.due("box " + box, w.enter(1, box, 5), box + 1);
            CHECK.due("it lies there", w.box(1, 5, box + 1), box);
        }
        for (int box : new int[] {10, 11, -2, -3, Integer.MIN_VALUE, Integer.MAX_VALUE}) {
            CHECK.due("box " + box, w.enter(1, box, 5), -1);
        }
        CHECK.due("entries", w.count(6), 10);
        CHECK.due("it lies there still", w.box(1, 999, 10), 9);
    }

    private static void inNoBox() {
        CHECK.of("8: (-1: in none)");
        FrescoWall w = bits(0);
        CHECK.due("in none", w.enter(0, -1, 0), 1);
        CHECK.due("in none", w.box(0, 999, 1), -5);
        CHECK.due("in one", w.enter(0, 0, 10), 2);
        CHECK.due("in one", w.box(0, 10, 2), 0);
        CHECK.due("out again", w.enter(0, -1, 20), 3);
        CHECK.due("out again", w.box(0, 20, 3), -5);
        CHECK.due("till then", w.box(0, 19, 3), 0);
        CHECK.due("ahead of it", w.box(0, 9, 3), -5);
    }

    private static void enterNone() {
        CHECK.of("Promise 34: NONE");
        FrescoWall w = bits(0, 0);
        for (int bit : NO_BITS) {
            CHECK.due("bit " + bit, w.enter(bit, 0, 0), -1);
            CHECK.due("NONE ahead of BAD", w.enter(bit, 0, 1000), -1);
        }
        CHECK.due("no BOX ahead of BAD", w.enter(0, 10, -1), -1);
        CHECK.due("no BOX ahead of BAD", w.enter(0, -2, 1000), -1);
        CHECK.due("entries", w.count(6), 0);
        CHECK.due("the last BIT", w.enter(1, 0, 0), 1);
    }

    private static void daysFromNoughtOn() {
        CHECK.of("8: from a DAY (0 .. 999) on; Promise 34: BAD: day");
        FrescoWall w = bits(0);
        CHECK.due("the first day", w.enter(0, 3, 0), 1);
        CHECK.due("the first day", w.box(0, 0, 1), 3);
        CHECK.due("the last day", w.enter(0, 4, 999), 2);
        CHECK.due("the day ahead of it", w.box(0, 998, 2), 3);
        CHECK.due("the last day", w.box(0, 999, 2), 4);
        for (int day : NO_DAYS) {
            CHECK.due("day " + day, w.enter(0, 5, day), -2);
            CHECK.due("day " + day, w.enter(0, -1, day), -2);
        }
        CHECK.due("entries", w.count(6), 2);
        CHECK.due("it lies there still", w.box(0, 999, 2), 4);
    }

    private static FrescoWall hundred() {
        FrescoWall w = bits(0, 0);
        for (int k = 1; k <= 100; k++) {
            CHECK.due("entry", w.enter(k % 2, k % 10, k), k);
        }
        return w;
    }

    private static void aHundredEntries() {
        CHECK.of("8: An ENTRY (100 at most); Promise 34: FULL");
        FrescoWall w = hundred();
        CHECK.due("entries", w.count(6), 100);
        CHECK.due("one too many", w.enter(0, 5, 999), -4);
        CHECK.due("one too many", w.enter(1, -1, 0), -4);
        CHECK.due("entries", w.count(6), 100);
        CHECK.due("behind all", w.box(0, 999, 100), 0);
        CHECK.due("behind all", w.box(1, 999, 100), 9);
        CHECK.due("behind the last but one", w.box(0, 999, 99), 8);
        CHECK.due("behind more", w.box(0, 999, 101), -1);
    }

    private static void fullComesLast() {
        CHECK.of("9: of several the first one told: NONE; BAD; FULL (of enter)");
        FrescoWall w = hundred();
        for (int bit : NO_BITS) {
            CHECK.due("bit " + bit, w.enter(bit, 5, 5), -1);
        }
        CHECK.due("no BOX", w.enter(0, 10, 5), -1);
        CHECK.due("no BOX", w.enter(0, -2, 5), -1);
        for (int day : NO_DAYS) {
            CHECK.due("day " + day, w.enter(0, 5, day), -2);
        }
        CHECK.due("all are well", w.enter(0, 5, 5), -4);
    }

    private static void whichEntriesAreKnown() {
        CHECK.of("8: as was known behind so many ENTRIES: of those among the first so many");
        FrescoWall w = bits(0);
        for (int k = 0; k <= 9; k++) {
            for (int known = 0; known <= k; known++) {
                CHECK.due(known + " of " + k, w.box(0, 100, known), known == 0 ? -5 : known - 1);
            }
            CHECK.due("enter", w.enter(0, k, 10 + k), k + 1);
        }
        CHECK.due("what was known stays", w.box(0, 999, 1), 0);
        CHECK.due("what was known stays", w.box(0, 11, 9), 1);
    }

    private static void entriesBelowNone() {
        CHECK.of("9: NONE there is no such ENTRY (below 0; box)");
        FrescoWall w = bits(0);
        for (int round = 0; round < 2; round++) {
            for (int entries : new int[] {-1, -2, -100, Integer.MIN_VALUE}) {
                CHECK.due("entries " + entries, w.box(0, 5, entries), -1);
                CHECK.due("NONE ahead of BAD", w.box(0, 1000, entries), -1);
                CHECK.due("NONE ahead of BAD", w.box(0, -1, entries), -1);
            }
            CHECK.due("behind none", w.box(0, 5, 0), -5);
            CHECK.due("behind none, BAD", w.box(0, -1, 0), -2);
            w.enter(0, 3, 5);
        }
    }

    private static void moreEntriesThanThereAre() {
        CHECK.of("Promise 35: NONE (more ENTRIES than there are, too)");
        FrescoWall w = bits(0, 0);
        for (int k = 0; k < 5; k++) {
            CHECK.due("as many as there are", w.box(0, 5, k), k == 0 ? -5 : 3);
            for (int more : new int[] {k + 1, k + 2, 100, 101, Integer.MAX_VALUE}) {
                CHECK.due("entries " + more, w.box(0, 5, more), -1);
                CHECK.due("NONE ahead of BAD", w.box(0, 1000, more), -1);
            }
            w.enter(0, 3, 5);
        }
        // all ENTRIES count, whichever BIT they are of
        CHECK.due("of another BIT", w.box(1, 5, 5), -5);
        CHECK.due("of another BIT", w.box(1, 5, 6), -1);
    }

    private static void boxNone() {
        CHECK.of("Promise 35: NONE (no such BIT)");
        FrescoWall w = bits(0, 0);
        w.enter(1, 4, 5);
        for (int bit : NO_BITS) {
            CHECK.due("bit " + bit, w.box(bit, 5, 1), -1);
            CHECK.due("NONE ahead of BAD", w.box(bit, 1000, 1), -1);
        }
        CHECK.due("the last BIT", w.box(1, 5, 1), 4);
    }

    private static void boxBad() {
        CHECK.of("8: a DAY (0 .. 999); Promise 35: BAD");
        FrescoWall w = bits(0);
        w.enter(0, 4, 0);
        for (int day : NO_DAYS) {
            CHECK.due("day " + day, w.box(0, day, 1), -2);
            CHECK.due("day " + day, w.box(0, day, 0), -2);
        }
        CHECK.due("the first", w.box(0, 0, 1), 4);
        CHECK.due("the last", w.box(0, 999, 1), 4);
    }

    private static void thatDayOrLess() {
        CHECK.of("8: At a DAY: of those with that DAY or less");
        FrescoWall w = bits(0, 0, 0);
        w.enter(0, 1, 1);
        w.enter(1, 2, 500);
        w.enter(2, 3, 999);
        int[] days = {1, 500, 999};
        for (int bit = 0; bit < 3; bit++) {
            CHECK.due("the day ahead", w.box(bit, days[bit] - 1, 3), -5);
            CHECK.due("that day", w.box(bit, days[bit], 3), bit + 1);
            CHECK.due("later", w.box(bit, Math.min(999, days[bit] + 1), 3), bit + 1);
            CHECK.due("on the last day", w.box(bit, 999, 3), bit + 1);
            CHECK.due("on the first", w.box(bit, 0, 3), -5);
        }
    }

    private static void theGreatestDay() {
        CHECK.of("8: the one of the greatest DAY");
        FrescoWall w = bits(0);
        // entered the last one first
        int[] days = {999, 600, 601, 0, 1};
        for (int k = 0; k < 5; k++) {
            w.enter(0, k, days[k]);
        }
        int[][] due = {{0, 3}, {1, 4}, {2, 4}, {599, 4}, {600, 1}, {601, 2}, {998, 2}, {999, 0}};
        for (int[] one : due) {
            CHECK.due("on day " + one[0], w.box(0, one[0], 5), one[1]);
        }
        CHECK.due("entered first", w.box(0, 999, 2), 0);
        CHECK.due("entered first", w.box(0, 998, 2), 1);
    }

    private static void theLatestEntered() {
        CHECK.of("8: of several the latest entered");
        FrescoWall w = bits(0);
        for (int day : new int[] {0, 7, 999}) {
            int before = w.count(6);
            for (int k = 0; k < 4; k++) {
                w.enter(0, 9 - k, day);
                CHECK.due("the latest", w.box(0, day, before + k + 1), 9 - k);
            }
            w.enter(0, -1, day);
            CHECK.due("in none is the latest", w.box(0, day, before + 5), -5);
            w.enter(0, 2, day);
            CHECK.due("and in one again", w.box(0, day, before + 6), 2);
            CHECK.due("not behind fewer", w.box(0, day, before + 5), -5);
        }
    }

    private static void noneOfThem() {
        CHECK.of("8: none: in no BOX; Promise 35: -5: none");
        FrescoWall w = bits(0, 0);
        CHECK.due("no ENTRIES", w.box(0, 999, 0), -5);
        w.enter(0, 0, 999);
        CHECK.due("a later one", w.box(0, 998, 1), -5);
        CHECK.due("one of another BIT", w.box(1, 999, 1), -5);
        CHECK.due("a later entered one", w.box(0, 999, 0), -5);
        CHECK.due("BOX 0 is one", w.box(0, 999, 1), 0);
    }

    private static void entriesOfTheBit() {
        CHECK.of("8: of those of the BIT");
        FrescoWall w = bits(0, 0, 0);
        for (int k = 0; k < 9; k++) {
            w.enter(k % 3, k, 10);
        }
        for (int known = 0; known <= 9; known++) {
            for (int bit = 0; bit < 3; bit++) {
                int mine = (known + 2 - bit) / 3;
                CHECK.due("bit " + bit + " behind " + known, w.box(bit, 10, known), mine == 0 ? -5 : 3 * mine - 3 + bit);
            }
        }
    }

    private static void now() {
        CHECK.of("8: Now: DAY 999, all ENTRIES");
        FrescoWall w = bits(0);
        w.skill(3, 0, 9);
        int[][] entries = {{4, 998, 4}, {5, 999, 5}, {6, 998, 5}, {7, 999, 7}, {-1, 999, -5}, {8, 0, -5}, {9, 999, 9}};
        CHECK.due("in none", w.share(-1), 0);
        for (int[] entry : entries) {
            w.enter(0, entry[0], entry[1]);
            CHECK.due("box", w.box(0, 999, w.count(6)), entry[2]);
            CHECK.due("worth", w.share(-1), entry[2] < 0 ? 0 : 9);
            CHECK.due("sorted by", w.share(3), entry[2] < 0 ? 3 : entry[2]);
            Check.feed(w, "b=" + (entry[2] < 0 ? 99 : entry[2]));
            CHECK.due("asked", w.ask(), 1);
        }
    }

    private static void skillNone() {
        CHECK.of("8: HANDS 0 .. 5; Promise 36: NONE: HAND, PLASTER (0 .. 9)");
        FrescoWall w = new FrescoWall();
        for (int hand = 0; hand <= 5; hand++) {
            for (int plaster = 0; plaster <= 9; plaster++) {
                CHECK.due("hand " + hand + ", plaster " + plaster, w.skill(hand, plaster, 1), 0);
            }
        }
        for (int no : new int[] {-1, 6, 7, Integer.MIN_VALUE, Integer.MAX_VALUE}) {
            CHECK.due("hand " + no, w.skill(no, 0, 2), -1);
            CHECK.due("NONE ahead of BAD", w.skill(no, 9, 10), -1);
        }
        for (int no : new int[] {-1, 10, 11, Integer.MIN_VALUE, Integer.MAX_VALUE}) {
            CHECK.due("plaster " + no, w.skill(0, no, 2), -1);
            CHECK.due("plaster " + no, w.skill(3, no, 2), -1);
            CHECK.due("NONE ahead of BAD", w.skill(5, no, -1), -1);
        }
        for (int hand = 0; hand <= 5; hand++) {
            for (int plaster = 0; plaster <= 9; plaster++) {
                CHECK.due("as it was", w.skill(hand, plaster, 1), 1);
            }
        }
    }

    private static void skillBad() {
        CHECK.of("8: SKILL 0 .. 9; Promise 36: BAD: n");
        FrescoWall w = new FrescoWall();
        int before = 0;
        for (int n : new int[] {9, 0, 8, 1, 7, 2, 6, 3, 5, 4}) {
            CHECK.due("n " + n, w.skill(2, 7, n), before);
            before = n;
            for (int no : new int[] {-1, 10, Integer.MIN_VALUE, Integer.MAX_VALUE}) {
                CHECK.due("n " + no, w.skill(2, 7, no), -2);
            }
        }
        CHECK.due("as it was", w.skill(2, 7, 4), 4);
    }

    private static void skillAtFirst() {
        CHECK.of("8: SKILL for each PLASTER (0 at first)");
        FrescoWall w = bits(0, 1, 2, 3, 4, 5, 6, 7, 8, 9);
        for (int bit = 0; bit <= 9; bit++) {
            w.enter(bit, bit, 0);
        }
        CHECK.due("worth", w.share(-1), 0);
        for (int hand = 0; hand <= 5; hand++) {
            for (int plaster = 0; plaster <= 9; plaster++) {
                CHECK.due("hand " + hand + ", plaster " + plaster, w.skill(hand, plaster, 0), 0);
            }
        }
        CHECK.due("worth", w.share(-1), 0);
    }

    private static void skillOfEach() {
        CHECK.of("Promise 36: SKILL of a HAND for a PLASTER: what it was");
        FrescoWall w = new FrescoWall();
        for (int round = 0; round <= 2; round++) {
            for (int hand = 0; hand <= 5; hand++) {
                for (int plaster = 0; plaster <= 9; plaster++) {
                    int due = round == 0 ? 0 : (3 * hand + plaster + round - 1) % 10;
                    int n = (3 * hand + plaster + round) % 10;
                    CHECK.due("hand " + hand + ", plaster " + plaster, w.skill(hand, plaster, n), due);
                }
            }
        }
    }

    private static void dueShare(FrescoWall w, int worth, int... boxes) {
        CHECK.due("worth", w.share(-1), worth);
        for (int hand = 0; hand < 6; hand++) {
            CHECK.due("box of " + hand, w.share(hand), boxes[hand]);
        }
    }

    private static void shareNone() {
        CHECK.of("Promise 37: its WORTH (hand -1), the BOX of a HAND. -100000");
        FrescoWall w = new FrescoWall();
        for (int hand : new int[] {-2, -3, 6, 7, Integer.MIN_VALUE, Integer.MAX_VALUE}) {
            CHECK.due("hand " + hand, w.share(hand), BELOW);
        }
        dueShare(w, 0, 0, 1, 2, 3, 4, 5);
    }

    private static void oneBoxAtMost() {
        CHECK.of("8: SHARING: each HAND has one BOX at most");
        FrescoWall w = bits(0, 1, 2);
        for (int bit = 0; bit < 3; bit++) {
            w.enter(bit, 9 - bit, 0);
        }
        w.skill(4, 0, 5);
        w.skill(4, 1, 7);
        w.skill(4, 2, 6);
        dueShare(w, 7, 0, 1, 2, 3, 8, 4);
        w.skill(4, 2, 8);
        dueShare(w, 8, 0, 1, 2, 3, 7, 4);
        w.skill(4, 0, 9);
        dueShare(w, 9, 0, 1, 2, 3, 9, 4);
    }

    private static void oneHandAtMost() {
        CHECK.of("8: each BOX one HAND");
        FrescoWall w = bits(0, 0);
        w.enter(0, 6, 0);
        w.enter(1, 6, 0);
        for (int hand = 0; hand < 6; hand++) {
            w.skill(hand, 0, 4);
        }
        w.skill(2, 0, 5);
        dueShare(w, 10, 0, 1, 6, 2, 3, 4);
        w.skill(5, 0, 6);
        dueShare(w, 12, 0, 1, 2, 3, 4, 6);
        w.skill(0, 0, 6);
        // two that are as skilled: HAND 0's least BOX is 0, so the other one has it
        dueShare(w, 12, 0, 1, 2, 3, 4, 6);
    }

    private static void worthOfAllBits() {
        CHECK.of("8: WORTH: SKILL of the HAND for PLASTERS of all BITS that lie in it");
        FrescoWall w = new FrescoWall();
        w.skill(1, 3, 9);
        w.skill(1, 4, 2);
        for (int n = 0; n < 30; n++) {
            CHECK.due("worth of " + n, w.share(-1), n < 20 ? 9 * n : 180 + 2 * (n - 20));
            Check.bit(w, Check.box(1, 1, "0000"), 5, -1, n < 20 ? 3 : 4);
            w.enter(n, 7, n);
        }
        dueShare(w, 200, 0, 7, 1, 2, 3, 4);
        w.skill(1, 3, 0);
        w.skill(1, 4, 0);
        dueShare(w, 0, 0, 1, 2, 3, 4, 5);
        w.skill(0, 4, 1);
        dueShare(w, 10, 7, 0, 1, 2, 3, 4);
    }

    private static void worthNow() {
        CHECK.of("8: of all BITS that lie in it now");
        FrescoWall w = bits(0, 0);
        w.skill(0, 0, 3);
        w.enter(0, 8, 500);
        w.enter(1, 8, 999);
        dueShare(w, 6, 8, 0, 1, 2, 3, 4);
        w.enter(1, -1, 998);
        dueShare(w, 6, 8, 0, 1, 2, 3, 4);
        w.enter(1, -1, 999);
        dueShare(w, 3, 8, 0, 1, 2, 3, 4);
        w.enter(0, 5, 500);
        dueShare(w, 3, 5, 0, 1, 2, 3, 4);
        w.enter(0, -1, 999);
        dueShare(w, 0, 0, 1, 2, 3, 4, 5);
    }

    private static void mostTogether() {
        CHECK.of("8: the most together");
        FrescoWall w = bits(0, 1);
        w.enter(0, 0, 0);
        w.enter(1, 1, 0);
        w.skill(0, 0, 9);
        w.skill(0, 1, 8);
        w.skill(1, 0, 7);
        w.skill(1, 1, 4);
        // 8 and 7, not 9 and 4
        dueShare(w, 15, 1, 0, 2, 3, 4, 5);
        w.skill(1, 1, 6);
        // 9 and 6 are as much: HAND 0 has the least BOX
        dueShare(w, 15, 0, 1, 2, 3, 4, 5);
        w.skill(1, 1, 5);
        w.skill(5, 0, 8);
        // the fifth one, too: 8 and 8
        dueShare(w, 16, 1, 2, 3, 4, 5, 0);
        // six boxes, each hand the better the farther it is from its own
        FrescoWall v = bits(0, 1, 2, 3, 4, 5);
        for (int bit = 0; bit < 6; bit++) {
            v.enter(bit, 9 - bit, 0);
            for (int hand = 0; hand < 6; hand++) {
                v.skill(hand, bit, (bit + hand) % 6 == 0 ? 9 : 8);
            }
        }
        dueShare(v, 54, 9, 4, 5, 6, 7, 8);
    }

    private static void leastBoxOfHandNought() {
        CHECK.of("8: of several the one in which HAND 0 has the least BOX");
        FrescoWall w = bits(0, 0);
        w.enter(0, 9, 0);
        w.enter(1, 3, 0);
        w.skill(0, 0, 1);
        dueShare(w, 1, 3, 0, 1, 2, 4, 5);
        w.enter(1, 4, 0);
        dueShare(w, 1, 4, 0, 1, 2, 3, 5);
        w.skill(1, 0, 1);
        // both boxes have one of them
        dueShare(w, 2, 4, 9, 0, 1, 2, 3);
        w.skill(2, 0, 1);
        // two of the three: HAND 0 may have none of them
        dueShare(w, 2, 0, 4, 9, 1, 2, 3);
    }

    private static void thenHandOne() {
        CHECK.of("8: then HAND 1, and so on");
        FrescoWall w = bits(0);
        w.enter(0, 0, 0);
        for (int hand = 0; hand < 6; hand++) {
            w.skill(hand, 0, 1);
        }
        dueShare(w, 1, 0, 1, 2, 3, 4, 5);
        w.enter(0, 1, 0);
        dueShare(w, 1, 0, 1, 2, 3, 4, 5);
        w.enter(0, 5, 0);
        dueShare(w, 1, 0, 1, 2, 3, 4, 5);
        w.enter(0, 6, 0);
        dueShare(w, 1, 0, 1, 2, 3, 4, 6);
        w.skill(5, 0, 0);
        dueShare(w, 1, 0, 1, 2, 3, 6, 4);
        w.skill(4, 0, 0);
        w.skill(3, 0, 0);
        dueShare(w, 1, 0, 1, 6, 2, 3, 4);
        w.skill(2, 0, 0);
        dueShare(w, 1, 0, 6, 1, 2, 3, 4);
        w.skill(1, 0, 0);
        dueShare(w, 1, 6, 0, 1, 2, 3, 4);
    }

    private static void noBoxesLeft() {
        CHECK.of("8: (none last); Promise 37: -5: none");
        // ten BOXES for six HANDS: none is without, and any BOX is less than none
        FrescoWall w = bits(0, 1, 2, 3, 4, 5, 6, 7, 8, 9);
        for (int bit = 0; bit <= 9; bit++) {
            w.enter(bit, bit, 0);
        }
        for (int hand = 0; hand < 6; hand++) {
            w.skill(hand, 9 - hand, 9);
            for (int other = 0; other < 6; other++) {
                CHECK.due("has one", w.share(other), other <= hand ? 9 - other : other - hand - 1);
            }
        }
        CHECK.due("worth", w.share(-1), 54);
    }

    private static void countNone() {
        CHECK.of("Promise 38: 0 BITS .. 8 JOINS in all. NONE");
        FrescoWall w = new FrescoWall();
        for (int what = 0; what <= 8; what++) {
            CHECK.due("count(" + what + ")", w.count(what), 0);
        }
        for (int what : new int[] {-1, 9, 10, Integer.MIN_VALUE, Integer.MAX_VALUE}) {
            CHECK.due("count(" + what + ")", w.count(what), -1);
        }
    }

    private static void countBits() {
        CHECK.of("Promise 38: 0 BITS; 1: numbered from 0 on, 30 at most");
        FrescoWall w = new FrescoWall();
        for (int n = 0; n < 30; n++) {
            CHECK.due("bits", w.count(0), n);
            CHECK.due("groups", w.count(2), n);
            CHECK.due("bit", Check.bit(w, Check.box(1, 1, "0000"), 5, -1, 0), n);
        }
        CHECK.due("bits", w.count(0), 30);
        CHECK.due("one too many", Check.bit(w, Check.box(1, 1, "0000"), 5, -1, 0), -4);
        CHECK.due("bits", w.count(0), 30);
    }

    private static void countJoins() {
        CHECK.of("Promise 38: 1 JOINS that are there, 8 JOINS in all");
        FrescoWall w = Check.squares(2);
        for (int n = 0; n < 60; n++) {
            CHECK.due("join", w.join(0, 0, 1, 2), n);
            CHECK.due("there", w.count(1), 1);
            CHECK.due("in all", w.count(8), n + 1);
            w.undo(n);
            CHECK.due("there", w.count(1), 0);
            CHECK.due("in all", w.count(8), n + 1);
        }
        CHECK.due("one too many", w.join(0, 0, 1, 2), -4);
        CHECK.due("in all", w.count(8), 60);
    }

    private static void countGroups() {
        CHECK.of("Promise 38: 2 GROUPS");
        FrescoWall w = Check.squares(4);
        CHECK.due("each for itself", w.count(2), 4);
        w.join(0, 1, 1, 3);
        CHECK.due("groups", w.count(2), 3);
        w.join(2, 1, 3, 3);
        CHECK.due("groups", w.count(2), 2);
        w.join(0, 2, 2, 0);
        CHECK.due("groups", w.count(2), 1);
        CHECK.due("a second way makes no fewer", w.join(1, 2, 3, 0), 3);
        CHECK.due("groups", w.count(2), 1);
        w.undo(2);
        CHECK.due("its end makes no more", w.count(2), 1);
        w.undo(1);
        CHECK.due("groups", w.count(2), 2);
        w.undo(0);
        w.undo(3);
        CHECK.due("each for itself", w.count(2), 4);
        w.word(0, 0, 0, 0);
        CHECK.due("a WORD makes none", w.count(2), 4);
    }

    private static void countOnTheWall() {
        CHECK.of("Promise 38: 3 BITS on THE WALL");
        FrescoWall w = Check.squares(5);
        w.join(0, 1, 1, 3);
        CHECK.due("none", w.count(3), 0);
        w.put(1, 0, 0, 0);
        CHECK.due("a group", w.count(3), 2);
        w.word(2, 0, 50, 0);
        CHECK.due("and one", w.count(3), 3);
        w.join(3, 1, 2, 3);
        CHECK.due("one joined to it", w.count(3), 4);
        w.undo(1);
        CHECK.due("and undone", w.count(3), 3);
        w.unsay(2);
        CHECK.due("as if it had been put", w.count(3), 3);
        w.lift(0);
        CHECK.due("lifted", w.count(3), 1);
        w.lift(2);
        CHECK.due("lifted", w.count(3), 0);
    }

    private static void countWords() {
        CHECK.of("Promise 38: 4 WORDS");
        FrescoWall w = Check.squares(3);
        w.join(0, 1, 1, 3);
        w.put(2, 0, 50, 50);
        CHECK.due("none", w.count(4), 0);
        w.word(0, 0, 0, 0);
        CHECK.due("one", w.count(4), 1);
        w.word(0, 1, 9, 9);
        CHECK.due("the same bit's", w.count(4), 1);
        CHECK.due("otherwise", w.word(1, 0, 0, 0), -14);
        CHECK.due("one", w.count(4), 1);
        CHECK.due("the same way", w.word(1, 1, 9, 10), 2);
        CHECK.due("two", w.count(4), 2);
        w.word(2, 0, 50, 50);
        CHECK.due("three", w.count(4), 3);
        w.unsay(0);
        w.unsay(2);
        CHECK.due("one", w.count(4), 1);
    }

    private static void countProved() {
        CHECK.of("Promise 38: 5 PROVED");
        FrescoWall w = new FrescoWall();
        for (String colours : new String[] {"0102", "0203", "0304"}) {
            Check.bit(w, Check.box(1, 2, colours), 5, -1, 0);
        }
        w.join(0, 3, 1, 1);
        w.join(1, 3, 2, 1);
        w.put(1, 0, 0, 0);
        CHECK.due("none", w.count(5), 0);
        w.word(1, 0, 0, 0);
        CHECK.due("all by two that are best", w.count(5), 3);
        w.likeness(2, 2, 0);
        CHECK.due("one is best no longer", w.count(5), 2);
        w.likeness(2, 2, 9);
        CHECK.due("it is again", w.count(5), 3);
        w.undo(1);
        CHECK.due("one undone", w.count(5), 2);
        w.unsay(1);
        CHECK.due("no WORD", w.count(5), 0);
    }

    private static void countEntries() {
        CHECK.of("Promise 38: 6 ENTRIES");
        FrescoWall w = bits(0);
        for (int n = 0; n < 100; n++) {
            CHECK.due("entries", w.count(6), n);
            w.enter(0, n % 11 - 1, 999 - n);
        }
        CHECK.due("entries", w.count(6), 100);
        w.enter(0, 0, 0);
        CHECK.due("entries", w.count(6), 100);
    }

    private static void countTape() {
        CHECK.of("Promise 38: 7 bytes of THE TAPE; 1: (bytes, 240 at most)");
        FrescoWall w = new FrescoWall();
        for (int n = 1; n <= 240; n++) {
            CHECK.due("feed", w.feed(n, 1), n);
            CHECK.due("tape", w.count(7), n);
        }
        CHECK.due("one too many", w.feed(0, 1), -4);
        CHECK.due("tape", w.count(7), 240);
    }
}
