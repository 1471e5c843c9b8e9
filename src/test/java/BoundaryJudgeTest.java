/**
 * Sections 2 and 3 of the document's terms, sentence by sentence: SILENT and SHOWN, LETTERS and the WHISPER, PRICES and
 * WALLS; at the least and the greatest of each number and beside them. All is worked out by hand but for the long pairs.
 */
public final class BoundaryJudgeTest {
    private static final int NONE = WhisperJudge.NONE;
    private static final int LINE = 0;
    private static final int QUEUE = 1;
    private static final int LOCK = 2;
    private static final int CLOCK = 3;
    private static final int REST = 9;
    private static final int CLEANED = 1;
    private static final int PARTED = 2;
    private static final int PADDED = 3;

    private static final Check check = new Check("BoundaryJudgeTest");

    public static void main(String[] args) {
        silentAtTheEdgesOfWalls();
        silentForItself();
        silentFromTheFirstState();
        silentAndRest();
        shownByPadding();
        shownByCleaning();
        shownInItsOrder();
        shownAtEachThing();
        shownHasItsTicks();
        longPairs();
        lettersOfNoTicks();
        lettersAtTheEdges();
        lettersOfCleanedThings();
        lettersAreSixtyFour();
        lettersByWhatWasAnswered();
        whisperOfOneLetter();
        whisperTakesTheLeast();
        whisperOfThreeTicks();
        wallsForLetters();
        wallsByTheirNumbers();
        wallsByTheirPrices();
        wallsOfThreeThings();
        wallsOfPartsOnly();
        wallsChangeNothing();
        check.end();
    }

    private static void due(String call, long got, long want) {
        check.due(call, got, want);
    }

    private static WhisperJudge with(int kind, int first) {
        WhisperJudge x = new WhisperJudge();
        due("thing(" + kind + ", " + first + ")", x.thing(kind, first), 0);
        return x;
    }

    private static WhisperJudge withTable(int first, long next, long answers) {
        WhisperJudge x = new WhisperJudge();
        due("table(" + first + ", ..)", x.table(first, next, answers), 0);
        return x;
    }

    private static long two(int party, int s, int a, long value) {
        return value << 2 * (12 * party + 3 * s + a);
    }

    /** The whole pair: for each tick five numbers; and nothing behind it or before it. */
    private static void pair(String name, WhisperJudge x, int k, int... want) {
        int length = want.length / 5;
        due(name + ", silent", x.silent(k), 0);
        due(name + ", shown", x.shown(k), length);
        for (int i = 0; i < want.length; i++) {
            due(name + ", show(" + k + ", " + i / 5 + ", " + i % 5 + ")", x.show(k, i / 5, i % 5), want[i]);
        }
        for (int what = -1; what <= 5; what++) {
            due(name + ", show(" + k + ", -1, " + what + ")", x.show(k, -1, what), NONE);
            due(name + ", show(" + k + ", " + length + ", " + what + ")", x.show(k, length, what), NONE);
        }
        for (int t = 0; t < length; t++) {
            due(name + ", show(" + k + ", " + t + ", -1)", x.show(k, t, -1), NONE);
            due(name + ", show(" + k + ", " + t + ", 5)", x.show(k, t, 5), NONE);
        }
    }

    private static void isSilent(String name, WhisperJudge x, int k) {
        due(name + ", silent", x.silent(k), 1);
        due(name + ", shown", x.shown(k), NONE);
        for (int what = -1; what <= 5; what++) {
            due(name + ", show(" + k + ", 0, " + what + ")", x.show(k, 0, what), NONE);
        }
    }

    /** Letter i of n ticks: for each tick the hearer's act, the answer, the sender's act. */
    private static void letter(String name, WhisperJudge x, int n, int i, int... want) {
        for (int j = 0; j < want.length; j++) {
            due(name + ", letter(" + n + ", " + i + ", " + j / 3 + ", " + j % 3 + ")", x.letter(n, i, j / 3, j % 3), want[j]);
        }
        due(name + ", letter(" + n + ", " + i + ", -1, 0)", x.letter(n, i, -1, 0), NONE);
        due(name + ", letter(" + n + ", " + i + ", " + n + ", 0)", x.letter(n, i, n, 0), NONE);
        due(name + ", letter(" + n + ", " + i + ", 0, -1)", x.letter(n, i, 0, -1), NONE);
        due(name + ", letter(" + n + ", " + i + ", 0, 3)", x.letter(n, i, 0, 3), NONE);
    }

    private static void letters(String name, WhisperJudge x, int... want) {
        for (int n = 0; n < want.length; n++) {
            due(name + ", letters(" + n + ")", x.letters(n), want[n]);
            due(name + ", the last letter", x.letter(n, want[n] - 1, n - 1, 0) != NONE ? 1 : 0, n > 0 ? 1 : 0);
            due(name + ", behind the last letter", x.letter(n, want[n], n - 1, 0), NONE);
            due(name + ", before the first letter", x.letter(n, -1, n - 1, 0), NONE);
        }
    }

    private static void walls(String name, WhisperJudge x, int m, int n, int sum, int number) {
        due(name + ", walls(" + m + ", " + n + ", 0)", x.walls(m, n, 0), sum);
        due(name + ", walls(" + m + ", " + n + ", 1)", x.walls(m, n, 1), number);
    }

    // SILENT is a THING, if no two rows of the SENDER's ACTS at it (or REST), however long, have unlike ANSWERS.

    private static void silentAtTheEdgesOfWalls() {
        int[] firsts = {3, 4, 3, 4};
        for (int kind = LINE; kind <= CLOCK; kind++) {
            for (int first = 0; first < firsts[kind]; first++) {
                String name = "KIND " + kind + " at " + first;
                WhisperJudge x = with(kind, first);
                due(name + ", open", x.silent(0), 0);
                x.wall(0, PARTED, 0);
                isSilent(name + ", PARTED", x, 0);
                x.wall(0, PADDED, 0);
                isSilent(name + ", PADDED by 0", x, 0);
                x.wall(0, PADDED, 1);
                due(name + ", PADDED by 1", x.silent(0), 0);
                x.wall(0, CLEANED, 1);
                isSilent(name + ", CLEANED by 1", x, 0);
                x.wall(0, CLEANED, 2);
                due(name + ", CLEANED by 2", x.silent(0), 0);
                x.wall(0, 0, 0);
                due(name + ", open again", x.silent(0), 0);
            }
        }
    }

    private static void silentForItself() {
        // All change, but whatever the hearer does is answered alike, 3 for 3.
        isSilent("alike ANSWERS", withTable(0, 0x9C5A36E1B27DL, -1L), 0);
        // The hearer could know states apart, but the sender can't lead elsewhere.
        long stays = 0L;
        long told = 0L;
        for (int s = 0; s <= 3; s++) {
            stays |= two(0, s, 0, s) | two(0, s, 1, s) | two(0, s, 2, s) | two(1, s, 1, s + 1 & 3);
            told |= two(1, s, 0, s);
        }
        isSilent("the SENDER leads nowhere", withTable(2, stays, told), 0);
        // What the sender itself is answered does not count.
        long own = two(0, 0, 0, 3) | two(0, 1, 0, 2) | two(0, 2, 1, 1) | two(0, 3, 2, 3);
        isSilent("the SENDER's ANSWERS", withTable(0, 0x9C5A36E1B27DL, own), 0);
        // Unlike the others just in state 3, where neither can lead it.
        isSilent("a state that can't be reached", withTable(0, two(0, 0, 0, 1) | two(0, 1, 0, 2), two(1, 3, 0, 1)), 0);
        // An open one beside it makes it no less silent.
        WhisperJudge x = with(CLOCK, 0);
        x.thing(CLOCK, 0);
        x.thing(CLOCK, 0);
        for (int open = 0; open < 3; open++) {
            x.give(42 - (PARTED << 2 * open));
            for (int k = 0; k < 3; k++) {
                due("open " + open + ", silent(" + k + ")", x.silent(k), k == open ? 0 : 1);
                due("open " + open + ", shown(" + k + ")", x.shown(k), k == open ? 1 : NONE);
            }
            due("open " + open + ", look(1)", x.look(1), 2);
        }
    }

    private static void silentFromTheFirstState() {
        // From state 0 the sender can't get away; from state 1 it can.
        long next = two(0, 1, 1, 2) | two(0, 1, 0, 1) | two(0, 1, 2, 1) | two(1, 1, 0, 1);
        long answers = two(1, 2, 0, 1);
        WhisperJudge x = withTable(0, next, answers);
        x.table(1, next, answers);
        isSilent("FIRST at 0", x, 0);
        pair("FIRST at 1", x, 1, 3, 4, 3, 0, 1);
        // Where the run is does not count, nor how many ticks it has.
        x.run(4, REST);
        x.run(REST, 5);
        due("the run is elsewhere", x.state(1), 0);
        isSilent("FIRST at 0, in a run", x, 0);
        pair("FIRST at 1, in a run", x, 1, 3, 4, 3, 0, 1);
        x.wall(1, CLEANED, 2);
        pair("CLEANED by 2 from tick 0 on, in a run", x, 1, 3, 4, 3, 0, 1);
        x.run(REST, REST);
        pair("CLEANED by 2 from tick 0 on, in a run", x, 1, 3, 4, 3, 0, 1);
    }

    private static void silentAndRest() {
        // The sender's acts lead all alike; only REST makes a difference, at each number of the thing.
        long next = two(0, 0, 0, 1) | two(0, 0, 1, 1) | two(0, 0, 2, 1);
        WhisperJudge x = withTable(0, next, two(1, 1, 2, 2));
        x.table(0, next, two(1, 1, 2, 2));
        x.table(0, next, two(1, 1, 2, 2));
        pair("REST of the SENDER", x, 0, 0, 9, 2, 2, 0);
        pair("REST of the SENDER", x, 1, 3, 9, 5, 2, 0);
        pair("REST of the SENDER", x, 2, 6, 9, 8, 2, 0);
        // The hearer's acts lead all to 0; state 2 alone is told, two steps away, so it must rest.
        long away = two(0, 0, 2, 1) | two(0, 1, 2, 2);
        WhisperJudge y = with(CLOCK, 0);
        y.thing(CLOCK, 0);
        y.table(0, away, two(1, 2, 0, 3));
        pair("REST of the HEARER", y, 2, 6, 8, 9, 0, 0, 6, 8, 6, 0, 3);
    }

    // SHOWN: as long as the shortest pair can be, alike but for the last ANSWER; the first one by the row.

    private static void shownByPadding() {
        int[][] lengths = {{NONE, NONE, NONE, NONE}, {1, 2, 2, 1}, {1, 1, 2, 1}, {1, 1, 1, 1}};
        for (int n = 0; n <= 3; n++) {
            for (int first = 0; first <= 3; first++) {
                WhisperJudge x = with(CLOCK, first);
                x.wall(0, PADDED, n);
                due("clock at " + first + " PADDED by " + n, x.shown(0), lengths[n][first]);
            }
        }
        WhisperJudge x = with(CLOCK, 0);
        x.thing(CLOCK, 1);
        x.thing(CLOCK, 2);
        for (int k = 0; k < 3; k++) {
            x.wall(k, PADDED, 1);
        }
        pair("at 0 PADDED by 1", x, 0, 0, 1, 0, 0, 1);
        pair("at 1 PADDED by 1", x, 1, 3, 4, 4, 0, 0, 3, 4, 3, 1, 0);
        pair("at 2 PADDED by 1", x, 2, 6, 6, 7, 0, 0, 6, 7, 6, 1, 0);
        x.wall(2, PADDED, 2);
        pair("at 2 PADDED by 2", x, 2, 6, 6, 7, 0, 0, 6, 7, 6, 2, 0);
        x.wall(2, PADDED, 3);
        pair("at 2 PADDED by 3", x, 2, 6, 7, 6, 2, 3);
    }

    private static void shownByCleaning() {
        // Told is state 1, to which the sender leads from 0: in tick 0, unless that is cleaned.
        int[] line = {NONE, 3, 2, 2};
        int[] clock = {NONE, 1, 1, 1};
        for (int n = 1; n <= 4; n++) {
            WhisperJudge x = with(LINE, 0);
            x.wall(0, CLEANED, n);
            due("line CLEANED by " + n, x.shown(0), line[n - 1]);
            WhisperJudge y = with(CLOCK, 3);
            y.wall(0, CLEANED, n);
            due("clock CLEANED by " + n, y.shown(0), clock[n - 1]);
        }
        // Three steps to the state that is told, none of which the hearer can do: 0, 1, 2, 3. It must not be cleaned
        // in any of the three ticks, so by 4 it is told in tick 2; by 3 or less never.
        long next = two(0, 0, 0, 1) | two(0, 1, 0, 2) | two(0, 2, 0, 3) | two(1, 1, 0, 1) | two(1, 2, 0, 2) | two(1, 3, 0, 3);
        for (int n = 1; n <= 3; n++) {
            WhisperJudge x = withTable(0, next, two(1, 3, 0, 1));
            x.wall(0, CLEANED, n);
            isSilent("three steps CLEANED by " + n, x, 0);
        }
        WhisperJudge x = withTable(0, next, two(1, 3, 0, 1));
        x.wall(0, CLEANED, 4);
        pair("three steps CLEANED by 4", x, 0, 0, 0, 0, 0, 0, 0, 0, 0, 0, 0, 0, 1, 0, 1, 0);
        x.wall(0, 0, 0);
        pair("three steps not CLEANED", x, 0, 0, 0, 0, 0, 0, 0, 0, 0, 0, 0, 0, 1, 0, 1, 0);
        // What the hearer does behind the cleaning stays: it brings the first of two steps over to tick 2.
        long steps = two(0, 1, 0, 2) | two(1, 0, 0, 1) | two(1, 1, 0, 1) | two(1, 2, 0, 2) | two(0, 1, 1, 1);
        WhisperJudge y = withTable(0, steps, two(1, 2, 0, 2));
        y.wall(0, CLEANED, 1);
        isSilent("a step of the HEARER CLEANED by 1", y, 0);
        y.wall(0, CLEANED, 2);
        pair("a step of the HEARER CLEANED by 2", y, 0, 0, 0, 0, 0, 0, 0, 0, 0, 0, 0, 0, 1, 0, 2, 0);
        y.wall(0, CLEANED, 3);
        pair("a step of the HEARER CLEANED by 3", y, 0, 0, 0, 0, 0, 0, 0, 1, 0, 2, 0);
    }

    private static void shownInItsOrder() {
        // One tick is enough with B's 1 and the hearer's 2, or with B's 2 and the hearer's 0: the lesser of B's.
        long next = two(0, 0, 0, 1) | two(0, 0, 1, 2) | two(0, 0, 2, 3);
        pair("B's before the HEARER's", withTable(0, next, two(1, 3, 0, 1) | two(1, 2, 2, 1)), 0, 0, 1, 2, 0, 1);
        // A's 0 goes with B's 2 alone, A's 1 with B's 2 as well: the lesser of A's.
        long alike = two(0, 0, 0, 1) | two(0, 0, 1, 1) | two(0, 0, 2, 3);
        pair("A's before B's", withTable(0, alike, two(1, 0, 1, 1) | two(1, 1, 1, 1) | two(1, 3, 1, 2)), 0, 0, 2, 1, 1, 2);
        // Act 2 is the least of the hearer's that tells; what it is answered may be greater in A.
        pair("ANSWERS of A and of B", withTable(0, alike, two(1, 1, 2, 3) | two(1, 0, 2, 3) | two(1, 3, 2, 1)), 0, 0, 2, 2, 3, 1);
        // Tick 0 comes before tick 1: there A and B do 0 alike, the hearer's 1 makes the first of two steps for both.
        long slow = two(0, 0, 1, 1) | two(0, 1, 1, 2) | two(0, 1, 2, 1) | two(0, 1, 0, 1) | two(1, 0, 1, 1) | two(1, 1, 1, 1) | two(1, 1, 0, 1)
            | two(1, 2, 0, 2);
        pair("tick by tick", withTable(0, slow, two(1, 2, 0, 1)), 0, 0, 0, 1, 0, 0, 0, 1, 0, 0, 1);
    }

    private static void shownAtEachThing() {
        for (int k = 0; k < 3; k++) {
            WhisperJudge x = new WhisperJudge();
            for (int i = 0; i < k; i++) {
                x.thing(LOCK, 0);
            }
            due("comes", x.thing(LINE, 0), k);
            int a = 3 * k;
            pair("line at " + k, x, k, a, a, a, 1, 1, a, a + 2, a, 1, 0);
            x.wall(k, CLEANED, 2);
            pair("line CLEANED by 2 at " + k, x, k, a, a, a, 1, 1, a, a, a, 1, 1, a, a + 2, a, 1, 0);
        }
    }

    private static void shownHasItsTicks() {
        WhisperJudge x = with(QUEUE, 0);
        for (int k : new int[] {-1, 1, 2, 3}) {
            due("silent of none", x.silent(k), NONE);
            due("shown of none", x.shown(k), NONE);
            due("show of none", x.show(k, 0, 0), NONE);
        }
        pair("empty queue", x, 0, 0, 1, 1, 0, 1);
        due("a tick far behind", x.show(0, Integer.MAX_VALUE, 0), NONE);
        due("a tick far before", x.show(0, Integer.MIN_VALUE, 0), NONE);
        x.wall(0, PARTED, 0);
        isSilent("PARTED", x, 0);
        x.clear();
        due("silent behind clear()", x.silent(0), NONE);
        due("shown behind clear()", x.shown(0), NONE);
        due("show behind clear()", x.show(0, 0, 0), NONE);
    }

    /** However long: the shortest pairs of these are long; that they are pairs is seen by doing them. */
    private static void longPairs() {
        longPair(2, 0x9BAC33FEA541L, 0x2000000000L, 0, 0, 6);
        longPair(0, 0x081C45FFE540L, 0xC000000L, PADDED, 1, 6);
        longPair(1, 0x15636B4CB7CCL, 0x30000000000L, CLEANED, 3, 5);
        longPair(2, 0x477EEBFE9942L, 0x300000000000L, CLEANED, 4, 7);
    }

    private static void longPair(int first, long next, long answers, int wall, int n, int length) {
        String name = "long pair of " + length;
        WhisperJudge x = withTable(first, next, answers);
        Oracle o = new Oracle();
        o.table(first, next, answers);
        x.wall(0, wall, n);
        o.wall(0, wall, n);
        due(name + ", silent", x.silent(0), 0);
        due(name + ", shown", x.shown(0), length);
        for (int side = 0; side < 2; side++) {
            x.begin();
            for (int t = 0; t < length; t++) {
                due(name + ", done, tick " + t, x.run(x.show(0, t, side), x.show(0, t, 2)), x.show(0, t, 3 + side));
            }
        }
        for (int t = 0; t < length; t++) {
            boolean alike = x.show(0, t, 3) == x.show(0, t, 4);
            due(name + ", alike but for the last, tick " + t, alike ? 1 : 0, t < length - 1 ? 1 : 0);
            for (int what = 0; what < 5; what++) {
                due(name + ", show(0, " + t + ", " + what + ")", x.show(0, t, what), o.show(0, t, what));
            }
        }
        due(name + ", behind the last", x.show(0, length, 0), NONE);
    }

    // LETTERS of n ticks (0 .. 3): from the FIRST states on. The WHISPER.

    private static void lettersOfNoTicks() {
        for (int many = 0; many <= 3; many++) {
            WhisperJudge x = new WhisperJudge();
            for (int k = 0; k < many; k++) {
                x.thing(CLOCK, k);
            }
            due("letters(0)", x.letters(0), 1);
            for (int t = -1; t <= 1; t++) {
                for (int what = -1; what <= 3; what++) {
                    due("letter(0, 0, ..)", x.letter(0, 0, t, what), NONE);
                    due("letter(0, 1, ..)", x.letter(0, 1, t, what), NONE);
                }
            }
            for (int n : new int[] {-1, 4, Integer.MIN_VALUE, Integer.MAX_VALUE}) {
                due("letters(" + n + ")", x.letters(n), NONE);
                due("letter(" + n + ", ..)", x.letter(n, 0, 0, 0), NONE);
            }
            due("letters(3)", x.letters(3) >= 1 ? 1 : 0, 1);
        }
    }

    private static void lettersAtTheEdges() {
        WhisperJudge x = with(CLOCK, 2);
        letters("open", x, 1, 2, 4, 8);
        x.wall(0, PARTED, 0);
        letters("PARTED", x, 1, 1, 1, 1);
        x.wall(0, PADDED, 0);
        letters("PADDED by 0", x, 1, 1, 1, 1);
        x.wall(0, PADDED, 3);
        letters("PADDED by 3", x, 1, 2, 4, 8);
        // At 2 by 1: only 0 is told from the others, two pushes away.
        x.wall(0, PADDED, 1);
        letters("PADDED by 1", x, 1, 1, 2);
        // The state of the run does not count, nor its ticks.
        x.wall(0, PADDED, 2);
        x.run(1, 1);
        letters("PADDED by 2, in a run", x, 1, 1, 3);
        x.begin();
        letters("PADDED by 2, begun", x, 1, 1, 3);
    }

    private static void lettersOfCleanedThings() {
        int[][] want = {{1, 1, 1, 1}, {1, 2, 2, 4}, {1, 2, 4, 4}, {1, 2, 4, 8}};
        for (int n = 1; n <= 4; n++) {
            WhisperJudge x = with(CLOCK, 2);
            x.wall(0, CLEANED, n);
            letters("CLEANED by " + n, x, want[n - 1]);
            x.run(1, 0);
            letters("CLEANED by " + n + ", in a run", x, want[n - 1]);
        }
        WhisperJudge x = with(CLOCK, 2);
        x.wall(0, CLEANED, 2);
        letter("CLEANED by 2", x, 2, 0, 0, 2, 0, 0, 2, 0);
        letter("CLEANED by 2", x, 2, 1, 0, 3, 1, 0, 2, 0);
        x.set(0, CLEANED, 3);
        letters("set to 3", x, want[2]);
    }

    private static void lettersAreSixtyFour() {
        // In each tick the sender leads to one of four states, whatever there was; the hearer is told it.
        long next = 0L;
        long answers = 0L;
        for (int s = 0; s <= 3; s++) {
            next |= two(0, s, 0, 1) | two(0, s, 1, 2) | two(0, s, 2, 3);
            answers |= two(1, s, 0, s);
        }
        WhisperJudge x = withTable(0, next, answers);
        letters("one TABLE", x, 1, 4, 16, 64);
        for (int i = 0; i < 64; i++) {
            int[] want = new int[9];
            for (int t = 0; t < 3; t++) {
                int answer = i >> 4 - 2 * t & 3;
                want[3 * t + 1] = answer;
                want[3 * t + 2] = answer == 0 ? REST : answer - 1;
            }
            letter("of 64", x, 3, i, want);
        }
        due("letter 64", x.letter(3, 64, 0, 0), NONE);
        due("letter far behind", x.letter(3, Integer.MAX_VALUE, 0, 0), NONE);
        due("letter far before", x.letter(3, Integer.MIN_VALUE, 0, 0), NONE);
        x.table(0, next, answers);
        x.table(0, next, answers);
        letters("three TABLES", x, 1, 4, 16, 64);
        letter("three TABLES, the last", x, 3, 63, 0, 3, 2, 0, 3, 2, 0, 3, 2);
        walls("16 of two ticks", x, 16, 2, 0, 0);
        walls("all but one of two ticks", x, 15, 2, 3, 21);
    }

    private static void lettersByWhatWasAnswered() {
        // Told 2 the sender has had a tick left for the other clock, told 3 it has not.
        WhisperJudge x = with(CLOCK, 2);
        x.thing(CLOCK, 0);
        letters("two clocks", x, 1, 2, 5);
        letter("two clocks", x, 2, 0, 0, 2, 0, 3, 0, 0);
        letter("two clocks", x, 2, 1, 0, 2, 0, 3, 1, 4);
        letter("two clocks", x, 2, 2, 0, 2, 4, 3, 2, 4);
        letter("two clocks", x, 2, 3, 0, 3, 1, 0, 0, 1);
        letter("two clocks", x, 2, 4, 0, 3, 1, 0, 3, 0);
        x.wall(1, PARTED, 0);
        letters("one of them PARTED", x, 1, 2, 4, 8);
        x.give(PARTED);
        letters("the other PARTED", x, 1, 2, 4, 8);
        letter("the other PARTED", x, 1, 0, 3, 0, 0);
        letter("the other PARTED", x, 1, 1, 3, 1, 4);
    }

    private static void whisperOfOneLetter() {
        letter("nothing is shared", new WhisperJudge(), 1, 0, 9, 0, 9);
        letter("nothing is shared", new WhisperJudge(), 3, 0, 9, 0, 9, 9, 0, 9, 9, 0, 9);
        WhisperJudge x = with(CLOCK, 3);
        x.wall(0, PARTED, 0);
        letter("PARTED: the least ACTS", x, 1, 0, 0, 3, 0);
        letter("PARTED: the least ACTS", x, 3, 0, 0, 3, 0, 0, 3, 0, 0, 3, 0);
        due("there is one", x.letter(3, 1, 0, 0), NONE);
        x.wall(0, PADDED, 2);
        letter("told are three, 3 as 2", x, 1, 0, 0, 0, 1);
        letter("told are three, 3 as 2", x, 1, 1, 0, 2, 0);
        due("there are two", x.letters(1), 2);
    }

    private static void whisperTakesTheLeast() {
        // Two letters by the hearer's act 1, by act 2 as well; by act 0 none.
        long next = two(0, 0, 1, 3) | two(0, 0, 2, 3);
        WhisperJudge x = withTable(0, next, two(1, 3, 1, 2) | two(1, 0, 2, 1));
        letters("acts 1 and 2 alike", x, 1, 2);
        letter("acts 1 and 2 alike", x, 1, 0, 1, 0, 0);
        letter("acts 1 and 2 alike", x, 1, 1, 1, 2, 1);
        // Three by act 2: more counts before less of an ACT. The sender's acts 0, 1, REST tell.
        long more = two(0, 0, 0, 1) | two(0, 0, 1, 2) | two(0, 0, 2, 2);
        WhisperJudge y = withTable(0, more, two(1, 1, 0, 1) | two(1, 0, 2, 3) | two(1, 1, 2, 1));
        letters("act 2 tells more", y, 1, 3);
        letter("act 2 tells more", y, 1, 0, 2, 0, 1);
        letter("act 2 tells more", y, 1, 1, 2, 1, 0);
        letter("act 2 tells more", y, 1, 2, 2, 3, 9);
        // At the second thing the first has acts that count as less: there they do nothing.
        WhisperJudge z = with(LINE, 2);
        z.wall(0, PADDED, 0);
        z.table(0, more, two(1, 1, 0, 1) | two(1, 0, 2, 3) | two(1, 1, 2, 1));
        letter("at the second thing", z, 1, 0, 5, 0, 4);
        letter("at the second thing", z, 1, 1, 5, 1, 3);
        letter("at the second thing: by the first thing's act", z, 1, 2, 5, 3, 0);
    }

    private static void whisperOfThreeTicks() {
        WhisperJudge x = with(CLOCK, 3);
        letters("clock at 3", x, 1, 2, 4, 8);
        // 3, then 0 behind it, then 1: the answers count as numbers, so 0 .. comes before 3 ..
        letter("clock at 3", x, 3, 0, 0, 0, 1, 0, 0, 0, 0, 0, 0);
        letter("clock at 3", x, 3, 1, 0, 0, 1, 0, 0, 0, 0, 1, 1);
        letter("clock at 3", x, 3, 2, 0, 0, 1, 0, 1, 1, 0, 1, 0);
        letter("clock at 3", x, 3, 3, 0, 0, 1, 0, 1, 1, 0, 2, 1);
        letter("clock at 3", x, 3, 4, 0, 3, 0, 0, 0, 1, 0, 0, 0);
        letter("clock at 3", x, 3, 5, 0, 3, 0, 0, 0, 1, 0, 1, 1);
        letter("clock at 3", x, 3, 6, 0, 3, 0, 0, 3, 0, 0, 0, 1);
        letter("clock at 3", x, 3, 7, 0, 3, 0, 0, 3, 0, 0, 3, 0);
        due("letter 8", x.letter(3, 8, 0, 0), NONE);
    }

    // PRICES and WALLS for m letters (1 .. 4096) in n ticks (0 .. 2).

    private static void wallsForLetters() {
        WhisperJudge x = with(CLOCK, 2);
        walls("4 letters", x, 4, 2, 0, 0);
        walls("3 letters at most", x, 3, 2, 1, 1);
        walls("1 letter", x, 1, 2, 1, 1);
        walls("4096 letters", x, 4096, 2, 0, 0);
        walls("1 letter of one tick", x, 1, 1, 1, 1);
        walls("2 letters of one tick", x, 2, 1, 0, 0);
        walls("1 letter of no tick", x, 1, 0, 0, 0);
        for (int what = 0; what <= 1; what++) {
            due("m 0", x.walls(0, 2, what), NONE);
            due("m -1", x.walls(-1, 2, what), NONE);
            due("m 4097", x.walls(4097, 2, what), NONE);
            due("n -1", x.walls(1, -1, what), NONE);
            due("n 3", x.walls(1, 3, what), NONE);
            due("m 0, n 0", x.walls(0, 0, what), NONE);
        }
        due("what -1", x.walls(1, 2, -1), NONE);
        due("what 2", x.walls(1, 2, 2), NONE);
    }

    private static void wallsByTheirNumbers() {
        // n as told, though no such wall stands.
        WhisperJudge x = with(CLOCK, 2);
        x.set(0, CLEANED, 2);
        walls("CLEANED by 2: two letters of two ticks", x, 2, 2, 1, 1);
        walls("CLEANED by 2: not one", x, 1, 2, 1, 2);
        walls("CLEANED by 2: not one of one tick", x, 1, 1, 1, 2);
        x.set(0, CLEANED, 3);
        walls("CLEANED by 3: four letters", x, 3, 2, 1, 2);
        x.price(0, PARTED, 5);
        walls("PADDED by 0", x, 1, 2, 1, 3);
        x.set(0, PADDED, 2);
        walls("PADDED by 2: three letters of two ticks", x, 3, 2, 1, 3);
        walls("PADDED by 2: not two", x, 2, 2, 5, 2);
        walls("PADDED by 2: one of one tick", x, 1, 1, 1, 3);
        x.set(0, PADDED, 3);
        walls("PADDED by 3: as with none", x, 3, 2, 5, 2);
        x.set(0, PADDED, 1);
        walls("PADDED by 1: two of two ticks", x, 2, 2, 1, 3);
        walls("PADDED by 1: not one", x, 1, 2, 5, 2);
    }

    private static void wallsByTheirPrices() {
        WhisperJudge x = with(CLOCK, 2);
        x.price(0, CLEANED, 0);
        walls("for nothing", x, 1, 2, 0, 1);
        walls("none is the least number for nothing", x, 4, 2, 0, 0);
        x.price(0, PARTED, 0);
        x.price(0, PADDED, 0);
        walls("all for nothing", x, 1, 2, 0, 1);
        x.price(0, CLEANED, 99);
        walls("the next for nothing", x, 1, 2, 0, 2);
        x.price(0, PARTED, 99);
        walls("the last for nothing", x, 1, 2, 0, 3);
        x.price(0, PADDED, 99);
        walls("the greatest price, the least number", x, 1, 2, 99, 1);
        x.price(0, PARTED, 98);
        walls("a less price before a less number", x, 1, 2, 98, 2);
        x.price(0, PADDED, 97);
        walls("a less price before a less number", x, 1, 2, 97, 3);
    }

    private static void wallsOfThreeThings() {
        WhisperJudge x = new WhisperJudge();
        for (int k = 0; k < 3; k++) {
            x.thing(CLOCK, k);
            for (int wall = 1; wall <= 3; wall++) {
                x.price(k, wall, 99);
            }
        }
        walls("the greatest sum", x, 1, 1, 297, 21);
        walls("the greatest sum", x, 1, 2, 297, 21);
        x.price(2, PADDED, 98);
        walls("thing 2 counts 16 times its WALL", x, 1, 1, 296, 1 + 4 + 16 * 3);
        x.price(1, PARTED, 0);
        walls("thing 1 counts 4 times its WALL", x, 1, 1, 197, 1 + 4 * 2 + 16 * 3);
        x.price(0, PADDED, 0);
        walls("thing 0 counts once its WALL", x, 1, 1, 98, 3 + 4 * 2 + 16 * 3);
        walls("two letters of one tick", x, 2, 1, 0, 0);
        x.set(0, PADDED, 3);
        x.set(1, PADDED, 3);
        x.set(2, PADDED, 3);
        walls("PADDED by 3 is none", x, 1, 1, 99 + 0 + 99, 1 + 4 * 2 + 16);
    }

    private static void wallsOfPartsOnly() {
        // Two clocks tell five letters of two ticks, one of them four.
        WhisperJudge x = with(CLOCK, 2);
        x.thing(CLOCK, 0);
        walls("five letters", x, 5, 2, 0, 0);
        walls("four letters", x, 4, 2, 1, 1);
        walls("three letters", x, 3, 2, 2, 5);
        x.price(0, CLEANED, 2);
        walls("four letters: PARTED is cheaper", x, 4, 2, 1, 2);
        x.price(0, PARTED, 2);
        x.price(0, PADDED, 2);
        walls("four letters: the other is cheaper", x, 4, 2, 1, 4);
        x.price(1, CLEANED, 2);
        x.price(1, PARTED, 2);
        x.price(1, PADDED, 2);
        walls("four letters: of several the least number", x, 4, 2, 2, 1);
        x.price(1, PADDED, 1);
        walls("four letters: the last of the other", x, 4, 2, 1, 12);
    }

    private static void wallsChangeNothing() {
        WhisperJudge x = with(CLOCK, 2);
        x.thing(CLOCK, 0);
        x.give(PADDED + 4 * CLEANED);
        x.run(1, 1);
        due("silent before", x.look(1), 2);
        due("letters before", x.letters(2), 1);
        walls("one letter", x, 1, 2, 2, 5);
        due("the WALLS stay", x.look(3), PADDED + 4 * CLEANED);
        due("silent behind", x.look(1), 2);
        due("letters behind", x.letters(2), 1);
        due("the run goes on", x.run(REST, 0) + 10 * x.state(0) + 100 * x.ticks(), 200);
        x.give(x.walls(4, 2, 1));
        due("given", x.look(3), 1);
        letters("given", x, 1, 2, 4);
        x.give(x.walls(5, 2, 1));
        letters("given for five", x, 1, 2, 5);
    }
}
