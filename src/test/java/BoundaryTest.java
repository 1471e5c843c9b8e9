/**
 * Section 1 of the document's terms, sentence by sentence: the last value that is allowed and the first that is not,
 * on both sides, with no thing there at all and with three. BoundaryJudgeTest does so for sections 2 and 3,
 * RefusedTest shows that a refused call does nothing.
 */
public final class BoundaryTest {
    private static final int NONE = WhisperJudge.NONE;
    private static final int LINE = 0;
    private static final int QUEUE = 1;
    private static final int LOCK = 2;
    private static final int CLOCK = 3;
    private static final int TABLE = 4;
    private static final int REST = 9;
    private static final int CLEANED = 1;
    private static final int PARTED = 2;
    private static final int PADDED = 3;
    private static final int MOST_CALLS = 512;
    private static final long ALL_BITS = (1L << 48) - 1;

    private static final Check check = new Check("BoundaryTest");

    public static void main(String[] args) {
        noThingAtAll();
        thingsAreThree();
        numbersOfThingsEnd();
        thingsAreNumberedAnew();
        statesByKind();
        partiesAreTwo();
        actsAreThreeAndRest();
        restChangesNothing();
        line();
        queue();
        lock();
        clockGoesRound();
        actTwo();
        tableHasPlaces();
        tableEndsAtBit48();
        wallsAreFour();
        numbersOfWallsAtFirst();
        numbersThatStay();
        cleanedGoesInto();
        cleanedBetween();
        cleanedFromThenOn();
        cleanedWhereNobodyActs();
        parted();
        padded();
        prices();
        looks();
        gives();
        begins();
        longRun();
        oneJudgeForAllItsCalls();
        check.end();
    }

    private static void due(String call, long got, long want) {
        check.due(call, got, want);
    }

    private static void due(String call, boolean got, boolean want) {
        check.due(call, got, want);
    }

    private static WhisperJudge with(int kind, int first) {
        WhisperJudge x = new WhisperJudge();
        due("thing(" + kind + ", " + first + ")", x.thing(kind, first), 0);
        return x;
    }

    /** Things 0 .. many - 1: a clock at 2, a queue at 1, a table that says 0 of everything. */
    private static WhisperJudge withMany(int many) {
        WhisperJudge x = new WhisperJudge();
        if (many > 0) {
            due("first", x.thing(CLOCK, 2), 0);
        }
        if (many > 1) {
            due("second", x.thing(QUEUE, 1), 1);
        }
        if (many > 2) {
            due("third", x.table(3, 0L, 0L), 2);
        }
        return x;
    }

    private static long two(int party, int s, int a, long value) {
        return value << 2 * (12 * party + 3 * s + a);
    }

    private static void runs(String name, WhisperJudge x, int sender, int hearer, String answers) {
        for (int i = 0; i < answers.length(); i++) {
            due(name + ", tick " + x.ticks(), x.run(sender, hearer), answers.charAt(i) - '0');
        }
    }

    // THINGS 0 .. 2 (at first none; numbered as they come), each with a state, first the FIRST one.

    private static void noThingAtAll() {
        WhisperJudge x = new WhisperJudge();
        for (int round = 0; round < 2; round++) {
            for (int k = -1; k <= 3; k++) {
                noSuchThing(x, k);
            }
            for (int what = 0; what < 4; what++) {
                due("look(" + what + ") of none", x.look(what), 0);
            }
            due("give(63) of none", x.give(63), true);
            due("look(3) of none", x.look(3), 0);
            due("run(8, 9) of none", x.run(8, REST), NONE);
            due("run(9, 0) of none", x.run(REST, 0), NONE);
            due("run(0, 9) of none", x.run(0, REST), NONE);
            due("run(9, 9) of none", x.run(REST, REST), 0);
            due("ticks of none", x.ticks(), 1);
            for (int n = 0; n <= 3; n++) {
                due("letters(" + n + ") of none", x.letters(n), 1);
                due("letter 1 of none", x.letter(n, 1, 0, 0), NONE);
            }
            due("walls of none", x.walls(1, 2, 0), 0);
            due("walls of none", x.walls(1, 2, 1), 0);
            due("walls of none", x.walls(4096, 0, 1), 0);
            x.begin();
            due("ticks behind begin()", x.ticks(), 0);
            // The second round: none any more.
            withNone(x);
        }
    }

    private static void withNone(WhisperJudge x) {
        x.thing(CLOCK, 1);
        x.thing(LINE, 2);
        x.table(3, -1L, -1L);
        x.wall(0, PARTED, 0);
        x.wall(2, PADDED, 1);
        due("three are there", x.look(0), 3);
        x.clear();
    }

    private static void noSuchThing(WhisperJudge x, int k) {
        String none = "thing " + k + " of " + x.look(0);
        for (int what = -1; what <= 5; what++) {
            due(none + ", of", x.of(k, what), NONE);
            due(none + ", does", x.does(k, 0, 0, 0, what), NONE);
            due(none + ", show", x.show(k, 0, what), NONE);
        }
        due(none + ", silent", x.silent(k), NONE);
        due(none + ", shown", x.shown(k), NONE);
        due(none + ", state", x.state(k), NONE);
        for (int wall = 0; wall <= 3; wall++) {
            due(none + ", wall", x.wall(k, wall, 1), false);
            due(none + ", set", x.set(k, wall, 1), false);
            due(none + ", price", x.price(k, wall, 1), false);
        }
    }

    private static void thingsAreThree() {
        for (int fourth = 0; fourth <= 4; fourth++) {
            WhisperJudge x = new WhisperJudge();
            for (int k = 0; k < 3; k++) {
                due("things before " + k, x.look(0), k);
                int kind = (fourth + k) % 5;
                due("comes as " + k, kind == TABLE ? x.table(k, 0L, 0L) : x.thing(kind, k), k);
                due("its kind", x.of(k, 0), kind);
                due("its FIRST state", x.of(k, 1), k);
                due("its state", x.state(k), k);
            }
            for (int kind = 0; kind <= 3; kind++) {
                due("a fourth", x.thing(kind, 0), NONE);
            }
            due("a fourth", x.table(0, 0L, 0L), NONE);
            due("things", x.look(0), 3);
            for (int k = 0; k < 3; k++) {
                due("the first three stay", x.of(k, 0) * 10 + x.of(k, 1), (fourth + k) % 5 * 10 + k);
            }
        }
    }

    private static void numbersOfThingsEnd() {
        for (int many = 1; many <= 3; many++) {
            WhisperJudge x = withMany(many);
            int last = many - 1;
            noSuchThing(x, -1);
            noSuchThing(x, many);
            due("of the last", x.of(last, 1), new int[] {2, 1, 3}[last]);
            due("state of the last", x.state(last), new int[] {2, 1, 3}[last]);
            due("silent of the last", x.silent(last), last == 2 ? 1 : 0);
            due("shown of the last", x.shown(last), new int[] {1, 1, NONE}[last]);
            due("does of the last", x.does(last, 1, 3, 1, 0), new int[] {0, 2, 0}[last]);
            due("price of the last", x.price(last, PARTED, 5), true);
            due("set of the last", x.set(last, PADDED, 3), true);
            due("wall of the last", x.wall(last, PARTED, 0), true);
            due("look(2) of the last", x.look(2), 5);
            due("look(3) of the last", x.look(3), PARTED << 2 * last);
        }
    }

    private static void thingsAreNumberedAnew() {
        WhisperJudge x = withMany(3);
        for (int round = 0; round < 3; round++) {
            for (int k = 0; k < 3; k++) {
                x.wall(k, CLEANED, 4);
                x.set(k, PADDED, 3);
                x.price(k, CLEANED, 99);
                x.price(k, PARTED, 0);
                x.price(k, PADDED, 98);
            }
            x.run(0, 1);
            x.clear();
            for (int k = 0; k < 3; k++) {
                due("numbered anew", x.thing(CLOCK, k + round & 3), k);
                due("state", x.state(k), k + round & 3);
                due("WALL 0 at first", x.of(k, 2), 0);
                due("n of CLEANED 1 at first", x.of(k, 3), 1);
                due("n of PADDED 0 at first", x.of(k, 4), 0);
                pricesAreOne(x, k);
            }
            due("a fourth", x.thing(CLOCK, 0), NONE);
        }
    }

    private static void pricesAreOne(WhisperJudge x, int k) {
        due("no WALL costs 0", x.look(2), 0);
        for (int wall = 1; wall <= 3; wall++) {
            x.give(wall << 2 * k);
            due("PRICE of WALL " + wall + " at first", x.look(2), 1);
        }
        x.give(0);
        due("no WALL costs 0", x.look(2), 0);
    }

    private static void statesByKind() {
        for (int kind = 0; kind <= 4; kind++) {
            int last = kind == LINE || kind == LOCK ? 2 : 3;
            for (int first = -1; first <= 4; first++) {
                WhisperJudge x = new WhisperJudge();
                int want = first >= 0 && first <= last ? 0 : NONE;
                String name = "kind " + kind + " first at " + first;
                due(name, kind == TABLE ? x.table(first, 0L, 0L) : x.thing(kind, first), want);
                due(name + ", things", x.look(0), want + 1);
                due(name + ", state", x.state(0), want == 0 ? first : NONE);
                due(name + ", of", x.of(0, 1), want == 0 ? first : NONE);
            }
            WhisperJudge x = new WhisperJudge();
            due("comes", kind == TABLE ? x.table(last, 0L, 0L) : x.thing(kind, last), 0);
            for (int party = 0; party <= 1; party++) {
                for (int what = 0; what <= 1; what++) {
                    String name = "kind " + kind + ", does " + what + " in state ";
                    due(name + "-1", x.does(0, party, -1, 2, what), NONE);
                    due(name + (last + 1), x.does(0, party, last + 1, 2, what), NONE);
                    due(name + last, x.does(0, party, last, 2, what), kind == TABLE || what == 1 ? 0 : last);
                    due(name + 0, x.does(0, party, 0, 2, what), 0);
                }
            }
        }
        due("KIND -1", new WhisperJudge().thing(-1, 0), NONE);
        due("KIND 4 is told otherwise", new WhisperJudge().thing(TABLE, 0), NONE);
    }

    // PARTIES: 0, 1. ACTS: 3 k + a, a 0 .. 2; 9 is REST (ANSWER 0, nothing changes).

    private static void partiesAreTwo() {
        WhisperJudge x = with(LINE, 0);
        due("SENDER touches", x.does(0, 0, 0, 0, 0), 1);
        due("HEARER touches", x.does(0, 1, 0, 0, 0), 2);
        for (int party : new int[] {-1, 2}) {
            due("PARTY " + party, x.does(0, party, 0, 0, 0), NONE);
            due("PARTY " + party, x.does(0, party, 0, 0, 1), NONE);
        }
        for (int party = 0; party <= 1; party++) {
            due("ACT 2", x.does(0, party, 1, 2, 0), 1);
            due("ACT 0", x.does(0, party, 1, 0, 0), 1 + party);
            for (int a : new int[] {-1, 3, REST}) {
                due("ACT " + a, x.does(0, party, 1, a, 0), NONE);
                due("ACT " + a, x.does(0, party, 1, a, 1), NONE);
            }
            due("what -1", x.does(0, party, 1, 0, -1), NONE);
            due("what 2", x.does(0, party, 1, 0, 2), NONE);
            due("what 1", x.does(0, party, 1, 0, 1), party);
        }
    }

    private static void actsAreThreeAndRest() {
        for (int many = 0; many <= 3; many++) {
            WhisperJudge x = withMany(many);
            int ticks = 0;
            for (int act = -2; act <= 12; act++) {
                boolean can = act >= 0 && act < 3 * many || act == REST;
                due(many + " things, SENDER's " + act, x.run(act, REST), can ? 0 : NONE);
                ticks += can ? 1 : 0;
                due(many + " things, ticks", x.ticks(), ticks);
                due(many + " things, HEARER's " + act, x.run(REST, act) != NONE, can);
                ticks += can ? 1 : 0;
                due(many + " things, ticks", x.ticks(), ticks);
                due(many + " things, both " + act, x.run(act, act) != NONE, can);
                ticks += can ? 1 : 0;
                due(many + " things, ticks", x.ticks(), ticks);
            }
        }
        // 3 k + a: the last act at each thing is not the first one at the next.
        WhisperJudge x = new WhisperJudge();
        for (int k = 0; k < 3; k++) {
            x.table(0, two(0, 0, 2, k + 1), 0L);
        }
        for (int k = 0; k < 3; k++) {
            x.begin();
            due("ACT 2 at " + k, x.run(3 * k + 2, REST), 0);
            due("ACT 2 at " + k, x.state(0) * 100 + x.state(1) * 10 + x.state(2), new int[] {100, 20, 3}[k]);
        }
        for (int k = 0; k < 3; k++) {
            x.begin();
            x.run(3 * k, REST);
            x.run(3 * k + 1, REST);
            due("ACTS 0, 1 at " + k, x.state(0) * 100 + x.state(1) * 10 + x.state(2), 0);
        }
    }

    private static void restChangesNothing() {
        for (int s = 0; s <= 3; s++) {
            WhisperJudge x = new WhisperJudge();
            // Whatever is done there leads elsewhere and is answered 3.
            long away = 0L;
            for (int i = 0; i < 24; i++) {
                away |= (long) (i / 3 % 4 + 1 & 3) << 2 * i;
            }
            x.table(s, away, ALL_BITS);
            due("REST of both", x.run(REST, REST), 0);
            due("REST of both changes nothing", x.state(0), s);
            x.wall(0, PADDED, 3);
            due("REST at a PADDED THING", x.run(REST, REST), 0);
            due("REST of the HEARER", x.run(2, REST), 0);
            due("and the SENDER's ACT is done", x.state(0), s + 1 & 3);
            due("REST of the SENDER", x.run(REST, 2), 3);
            due("and the HEARER's ACT is done", x.state(0), s + 2 & 3);
        }
    }

    // KINDS.

    private static void does(String name, WhisperJudge x, int party, int a, String nexts, String answers) {
        for (int s = 0; s < nexts.length(); s++) {
            String call = name + ", PARTY " + party + " in state " + s;
            due(call + ", next", x.does(0, party, s, a, 0), nexts.charAt(s) - '0');
            due(call + ", ANSWER", x.does(0, party, s, a, 1), answers.charAt(s) - '0');
        }
    }

    private static void line() {
        WhisperJudge x = with(LINE, 0);
        does("touch", x, 0, 0, "111", "101");
        does("touch", x, 1, 0, "222", "110");
        does("drop, whosever it is", x, 0, 1, "000", "000");
        does("drop, whosever it is", x, 1, 1, "000", "000");
        runs("nobody's, then its own", x, REST, 0, "100");
        runs("the SENDER's each time", x, 0, 0, "11");
        runs("dropped by the SENDER each time", x, 1, 0, "11");
        due("dropped by the HEARER", x.run(0, 1), 0);
        due("dropped by the HEARER", x.state(0), 0);
    }

    private static void queue() {
        WhisperJudge x = with(QUEUE, 0);
        for (int party = 0; party <= 1; party++) {
            does("put", x, party, 0, "1233", "0001");
            does("take", x, party, 1, "0012", "1000");
        }
        due("take of none", x.run(REST, 1), 1);
        due("take of none leaves none", x.state(0), 0);
        runs("put till it is full and on", x, REST, 0, "00011");
        due("full", x.state(0), 3);
        runs("take till it is empty and on", x, REST, 1, "00011");
        due("empty", x.state(0), 0);
        for (int i = 1; i <= 5; i++) {
            x.run(0, REST);
            due("the SENDER puts " + i, x.state(0), Math.min(i, 3));
        }
        due("what did not go in is not there", x.run(1, 0), 0);
        for (int i = 1; i <= 5; i++) {
            x.run(1, REST);
            due("the SENDER takes " + i, x.state(0), Math.max(3 - i, 0));
        }
        due("the SENDER's put is before the HEARER's take", x.run(0, 1), 0);
        due("then none", x.state(0), 0);
    }

    private static void lock() {
        WhisperJudge x = with(LOCK, 0);
        does("take", x, 0, 0, "112", "001");
        does("take", x, 1, 0, "212", "010");
        does("give back", x, 0, 1, "002", "101");
        does("give back", x, 1, 1, "010", "110");
        due("give back what is free", x.run(REST, 1), 1);
        runs("take it and take it again", x, REST, 0, "00");
        due("the SENDER can't take it", x.run(0, REST) + x.state(0), 2);
        due("nor give it back", x.run(1, REST) + x.state(0), 2);
        runs("give back once", x, REST, 1, "01");
        due("the SENDER takes it", x.run(0, 0), 1);
        due("and has it", x.state(0), 1);
        due("the HEARER can't give it back", x.run(REST, 1), 1);
        due("and the SENDER has it", x.state(0), 1);
        due("the SENDER gives it back, the HEARER takes it", x.run(1, 0), 0);
        due("and has it", x.state(0), 2);
    }

    private static void clockGoesRound() {
        for (int first = 0; first <= 3; first++) {
            WhisperJudge x = with(CLOCK, first);
            for (int party = 0; party <= 1; party++) {
                does("look", x, party, 0, "0123", "0123");
                does("push", x, party, 1, "1230", "0000");
            }
            for (int i = 1; i <= 9; i++) {
                due("pushed by the SENDER " + i, x.run(1, 0), first + i & 3);
                due("state", x.state(0), first + i & 3);
            }
            x.begin();
            for (int i = 1; i <= 9; i++) {
                due("pushed by the HEARER " + i, x.run(0, 1), 0);
                due("state", x.state(0), first + i & 3);
            }
            x.begin();
            due("pushed by both", x.run(1, 1), 0);
            due("state", x.state(0), first + 2 & 3);
        }
    }

    private static void actTwo() {
        for (int kind = 0; kind <= 3; kind++) {
            int last = kind == LINE || kind == LOCK ? 2 : 3;
            for (int s = 0; s <= last; s++) {
                WhisperJudge x = with(kind, s);
                for (int party = 0; party <= 1; party++) {
                    due("ACT 2 of KIND " + kind, x.does(0, party, s, 2, 0), s);
                    due("ACT 2 of KIND " + kind, x.does(0, party, s, 2, 1), 0);
                }
                due("ACT 2 of both", x.run(2, 2), 0);
                due("ACT 2 of both does nothing", x.state(0), s);
            }
        }
        WhisperJudge x = new WhisperJudge();
        x.table(1, two(0, 1, 2, 3) | two(1, 3, 2, 2), two(1, 3, 2, 1));
        due("ACT 2 of a TABLE is told like the others", x.run(2, 2), 1);
        due("ACT 2 of a TABLE is told like the others", x.state(0), 2);
    }

    // TABLE: at place 12 p + 3 s + a: bits 2 times the place and the next one.

    private static void tableHasPlaces() {
        for (int place = 0; place < 24; place++) {
            for (int half = 0; half < 2; half++) {
                WhisperJudge x = new WhisperJudge();
                long bit = 1L << 2 * place + half;
                x.table(0, bit, 0L);
                x.table(0, 0L, bit);
                x.table(0, ~bit, ~bit);
                int p = place / 12;
                int s = place / 3 % 4;
                int a = place % 3;
                String name = "bit " + (2 * place + half);
                due(name + " of NEXT", x.does(0, p, s, a, 0), 1 << half);
                due(name + " of NEXT alone", x.does(0, p, s, a, 1), 0);
                due(name + " of ANSWERS", x.does(1, p, s, a, 1), 1 << half);
                due(name + " of ANSWERS alone", x.does(1, p, s, a, 0), 0);
                due(name + " is away", x.does(2, p, s, a, 0), 3 - (1 << half));
                due(name + " is away", x.does(2, p, s, a, 1), 3 - (1 << half));
                int sum = 0;
                for (int i = 0; i < 24; i++) {
                    sum += x.does(0, i / 12, i / 3 % 4, i % 3, 0) + x.does(1, i / 12, i / 3 % 4, i % 3, 1);
                }
                due(name + " says nothing of other places", sum, 2 << half);
            }
        }
        WhisperJudge x = new WhisperJudge();
        x.table(3, two(0, 3, 0, 3) | two(1, 3, 2, 3), two(1, 3, 2, 3));
        due("the last place in a run", x.run(0, 2), 3);
        due("the last place in a run", x.state(0), 3);
        WhisperJudge y = new WhisperJudge();
        y.table(0, two(0, 0, 0, 3), two(1, 3, 0, 2));
        due("the first place in a run", y.run(0, 0), 2);
    }

    private static void tableEndsAtBit48() {
        long[] above = {1L << 48, 1L << 49, 1L << 62, Long.MIN_VALUE, -1L << 48};
        for (long more : above) {
            WhisperJudge x = new WhisperJudge();
            x.table(2, more, more);
            x.table(1, ALL_BITS | more, ALL_BITS | more);
            for (int i = 0; i < 24; i++) {
                for (int what = 0; what <= 1; what++) {
                    due("bits above 48 of 0", x.does(0, i / 12, i / 3 % 4, i % 3, what), 0);
                    due("bits above 48 of all", x.does(1, i / 12, i / 3 % 4, i % 3, what), 3);
                }
            }
            due("bits above 48 make none unlike", x.look(1), 2);
            due("bits above 48 tell nothing", x.letters(2), 1);
            due("bits above 48 in a run", x.run(0, 2), 0);
            due("bits above 48 in a run", x.state(0), 0);
            due("bits above 48 in a run", x.run(3, 5), 3);
            due("bits above 48 in a run", x.state(1), 3);
        }
        WhisperJudge x = new WhisperJudge();
        x.table(3, 1L << 47, 1L << 46);
        due("bit 47 counts", x.does(0, 1, 3, 2, 0), 2);
        due("bit 46 counts", x.does(0, 1, 3, 2, 1), 1);
    }

    // WALLS: 0 none. 1 CLEANED by n (1 .. 4). 2 PARTED. 3 PADDED by n (0 .. 3).

    private static void wallsAreFour() {
        for (int k = 0; k < 3; k++) {
            for (int wall = -1; wall <= 4; wall++) {
                WhisperJudge x = withMany(3);
                for (int n = -1; n <= 5; n++) {
                    boolean cleaned = wall == CLEANED && n >= 1 && n <= 4;
                    boolean padded = wall == PADDED && n >= 0 && n <= 3;
                    String name = "WALL " + wall + " by " + n + " at " + k;
                    due("set " + name, x.set(k, wall, n), cleaned || padded);
                    due("set " + name + " gives none", x.look(3), 0);
                    due(name, x.wall(k, wall, n), cleaned || padded || wall == 0 || wall == PARTED);
                    due(name + " is there", x.of(k, 2), cleaned || padded || wall == PARTED ? wall : 0);
                    due(name + " and at no other", x.look(3), x.of(k, 2) << 2 * k);
                    x.wall(k, 0, 0);
                }
                due("the last n of CLEANED", x.of(k, 3), wall == CLEANED ? 4 : 1);
                due("the last n of PADDED", x.of(k, 4), wall == PADDED ? 3 : 0);
            }
        }
    }

    private static void numbersOfWallsAtFirst() {
        WhisperJudge x = withMany(3);
        for (int k = 0; k < 3; k++) {
            due("WALL at first", x.of(k, 2), 0);
            due("n of CLEANED at first", x.of(k, 3), 1);
            due("n of PADDED at first", x.of(k, 4), 0);
            due("what -1", x.of(k, -1), NONE);
            due("what 5", x.of(k, 5), NONE);
        }
        // The n of the first is meant by give() as well.
        x.give(CLEANED + 4 * PADDED);
        due("CLEANED by 1 each tick", x.run(1, 0) + x.run(1, 0), 4);
        x.run(1, 4);
        due("PADDED by 0", x.run(REST, 4), 0);
        due("though the queue was empty", x.does(1, 1, 0, 1, 1) + x.state(1), 1);
    }

    private static void numbersThatStay() {
        for (int wall : new int[] {0, PARTED}) {
            for (int n : new int[] {-1, 0, 1, 3, 4, 5, Integer.MAX_VALUE, Integer.MIN_VALUE}) {
                WhisperJudge x = with(CLOCK, 0);
                x.set(0, CLEANED, 3);
                x.set(0, PADDED, 2);
                due("n of WALL " + wall + " does not count", x.wall(0, wall, n), true);
                due("WALL", x.of(0, 2), wall);
                due("n of CLEANED stays", x.of(0, 3), 3);
                due("n of PADDED stays", x.of(0, 4), 2);
            }
        }
        WhisperJudge x = with(CLOCK, 0);
        for (int n = 1; n <= 4; n++) {
            x.wall(0, CLEANED, n);
            x.wall(0, PADDED, n - 1);
            due("of CLEANED by itself", x.of(0, 3), n);
            due("of PADDED by itself", x.of(0, 4), n - 1);
            x.wall(0, PARTED, n + 1);
            x.set(0, CLEANED, 5 - n);
            due("set() of CLEANED alone", x.of(0, 3) * 100 + x.of(0, 2) * 10 + x.of(0, 4), (5 - n) * 100 + 20 + n - 1);
            x.set(0, PADDED, 4 - n);
            due("set() of PADDED alone", x.of(0, 3) * 100 + x.of(0, 2) * 10 + x.of(0, 4), (5 - n) * 100 + 20 + 4 - n);
        }
    }

    // TICK t: the SENDER; then each CLEANED THING whose n goes into t + 1 gets its FIRST state; then the HEARER.

    private static void cleanedGoesInto() {
        String[] answers = {"000000000000", "101010101010", "120120120120", "123012301230"};
        for (int n = 1; n <= 4; n++) {
            WhisperJudge x = with(CLOCK, 0);
            x.wall(0, CLEANED, n);
            runs("CLEANED by " + n, x, 1, 0, answers[n - 1]);
            x.begin();
            runs("CLEANED by " + n + " from tick 0 again", x, 1, 0, answers[n - 1].substring(0, 5));
            x.begin();
            runs("CLEANED by " + n + " from tick 0 again", x, 1, 0, answers[n - 1]);
        }
        WhisperJudge x = with(CLOCK, 3);
        x.wall(0, CLEANED, 4);
        runs("cleaned to its FIRST state", x, 1, 0, "01230123");
        x.wall(0, CLEANED, 3);
        runs("3 goes into 9", x, 1, 0, "301301");
    }

    private static void cleanedBetween() {
        WhisperJudge x = with(CLOCK, 2);
        x.wall(0, CLEANED, 1);
        due("what the SENDER did is gone, what the HEARER does stays", x.run(1, 1), 0);
        due("it stays till the next tick", x.state(0), 3);
        due("and is gone then", x.run(REST, 0), 2);
        due("and is gone then", x.state(0), 2);
        x.wall(0, CLEANED, 2);
        x.begin();
        due("tick 0", x.run(1, 1), 0);
        due("tick 0 is not cleaned", x.state(0), 0);
        due("tick 1", x.run(1, 1), 0);
        due("tick 1 is cleaned before the HEARER", x.state(0), 3);
        due("tick 2 goes on from there", x.run(1, 0), 0);
    }

    private static void cleanedFromThenOn() {
        WhisperJudge x = with(CLOCK, 0);
        runs("no WALL", x, 1, 0, "123");
        x.set(0, CLEANED, 4);
        due("no WALL yet", x.run(REST, 0), 3);
        x.wall(0, CLEANED, 3);
        due("told: nothing is cleaned by that", x.state(0), 3);
        due("tick 4", x.run(REST, 0), 3);
        due("tick 5, 3 goes into 6", x.run(REST, 0), 0);
        due("tick 6", x.run(1, 0), 1);
        x.set(0, CLEANED, 4);
        due("tick 7, 4 goes into 8", x.run(1, 0), 0);
        due("tick 8, 3 would go into 9", x.run(1, 0), 1);
        x.give(PARTED);
        due("PARTED is told", x.run(1, 0), 1);
        x.give(0);
        due("tick 10", x.run(1, 0), 2);
        due("tick 11, 4 goes into 12, but there is no WALL", x.run(1, 0), 3);
        due("ticks", x.ticks(), 12);
        // One that comes in the run is cleaned by the run's ticks, not by those since it came.
        due("it comes behind 12 ticks", x.thing(CLOCK, 1), 1);
        x.wall(1, CLEANED, 2);
        due("tick 12", x.run(4, 3), 2);
        due("tick 13, 2 goes into 14", x.run(4, 3), 1);
        x.run(REST, REST);
        due("it comes behind 15 ticks", x.thing(CLOCK, 1), 2);
        x.wall(2, CLEANED, 2);
        due("tick 15, 2 goes into 16", x.run(7, 6), 1);
        due("tick 16", x.run(7, 6), 2);
    }

    private static void cleanedWhereNobodyActs() {
        WhisperJudge x = new WhisperJudge();
        x.thing(CLOCK, 1);
        x.thing(CLOCK, 2);
        x.thing(CLOCK, 3);
        x.wall(0, CLEANED, 2);
        x.wall(1, CLEANED, 3);
        due("tick 0", x.run(1, 4), 0);
        due("tick 0", x.state(0) * 100 + x.state(1) * 10 + x.state(2), 233);
        due("tick 1: thing 0", x.run(7, 7), 0);
        due("tick 1: thing 0", x.state(0) * 100 + x.state(1) * 10 + x.state(2), 131);
        due("tick 2: thing 1", x.run(1, REST), 0);
        due("tick 2: thing 1", x.state(0) * 100 + x.state(1) * 10 + x.state(2), 221);
        x.run(4, REST);
        due("tick 3: thing 0", x.state(0) * 100 + x.state(1) * 10 + x.state(2), 131);
        x.run(1, REST);
        x.run(REST, REST);
        due("tick 5: both", x.state(0) * 100 + x.state(1) * 10 + x.state(2), 121);
    }

    private static void parted() {
        for (int k = 0; k < 3; k++) {
            WhisperJudge x = new WhisperJudge();
            for (int i = 0; i < 3; i++) {
                x.table(0, two(0, 0, 0, 1) | two(0, 0, 1, 2) | two(0, 0, 2, 3) | two(1, 0, 2, 2), two(1, 0, 2, 3));
            }
            x.wall(k, PARTED, 0);
            for (int a = 0; a <= 2; a++) {
                due("SENDER at a PARTED THING", x.run(3 * k + a, REST), 0);
                due("it changes nothing", x.state(k), 0);
            }
            int other = (k + 1) % 3;
            x.run(3 * other + 1, REST);
            due("elsewhere it does", x.state(other), 2);
            due("the HEARER's ANSWER", x.run(3 * k, 3 * k + 2), 3);
            due("the HEARER's ACT does", x.state(k), 2);
        }
    }

    private static void padded() {
        for (int n = 0; n <= 3; n++) {
            for (int answer = 0; answer <= 3; answer++) {
                WhisperJudge x = with(CLOCK, answer);
                x.wall(0, PADDED, n);
                due(answer + " PADDED by " + n, x.run(REST, 0), Math.min(answer, n));
                due("what it does, WALLS aside", x.does(0, 1, answer, 0, 1), answer);
                due("a push is answered 0", x.run(REST, 1), 0);
                due("and done", x.state(0), answer + 1 & 3);
                due("the SENDER's push too", x.run(1, 0), Math.min(answer + 2 & 3, n));
            }
        }
        WhisperJudge x = new WhisperJudge();
        x.thing(CLOCK, 3);
        x.thing(CLOCK, 3);
        x.wall(0, PADDED, 1);
        due("PADDED", x.run(REST, 0), 1);
        due("another THING is not", x.run(REST, 3), 3);
    }

    // PRICES 0 .. 99, 1 at first; none costs 0. What look() and give() say of WALLS.

    private static void prices() {
        WhisperJudge x = withMany(3);
        for (int k = 0; k < 3; k++) {
            pricesAreOne(x, k);
            for (int wall = 1; wall <= 3; wall++) {
                due("PRICE 99", x.price(k, wall, 99), true);
                x.give(wall << 2 * k);
                due("PRICE 99", x.look(2), 99);
                due("PRICE 100", x.price(k, wall, 100), false);
                due("still 99", x.look(2), 99);
                due("PRICE 0", x.price(k, wall, 0), true);
                due("PRICE 0", x.look(2), 0);
                due("PRICE -1", x.price(k, wall, -1), false);
                due("still 0", x.look(2), 0);
                x.price(k, wall, 10 * k + wall);
            }
            x.give(0);
            due("WALL 0 has none", x.price(k, 0, 1), false);
            due("WALL 4 has none", x.price(k, 4, 1), false);
            due("WALL -1 has none", x.price(k, -1, 1), false);
            due("none costs 0", x.look(2), 0);
        }
        for (int number = 0; number < 64; number++) {
            x.give(number);
            int sum = 0;
            for (int k = 0; k < 3; k++) {
                int wall = number / (1 << 2 * k) % 4;
                sum += wall == 0 ? 0 : 10 * k + wall;
            }
            due("sum of " + number, x.look(2), sum);
            due("number " + number, x.look(3), number);
        }
        for (int k = 0; k < 3; k++) {
            x.price(k, PADDED, 99);
        }
        due("the greatest sum", x.look(2), 297);
    }

    private static void looks() {
        for (int many = 0; many <= 3; many++) {
            WhisperJudge x = withMany(many);
            due("look(-1)", x.look(-1), NONE);
            due("look(4)", x.look(4), NONE);
            due("look(0)", x.look(0), many);
            due("look(1)", x.look(1), many == 3 ? 1 : 0);
            x.give(63);
            due("look(1), all PADDED by 0", x.look(1), many);
            due("look(2)", x.look(2), many);
            due("look(3)", x.look(3), (1 << 2 * many) - 1);
        }
    }

    private static void gives() {
        for (int many = 0; many <= 3; many++) {
            WhisperJudge x = withMany(many);
            int counts = (1 << 2 * many) - 1;
            for (int number : new int[] {63, 0, 42, 21, 57}) {
                due("give(" + number + ")", x.give(number), true);
                due("give(" + number + ") to " + many, x.look(3), number & counts);
                due("give(64)", x.give(64), false);
                due("give(-1)", x.give(-1), false);
                due("nothing is done", x.look(3), number & counts);
            }
            x.give(63);
            if (many < 3) {
                due("one comes", x.thing(CLOCK, 0), many);
                due("what was said of it before does not count", x.look(3), counts);
            }
        }
    }

    // begin(), ticks() and the 512 calls.

    private static void begins() {
        WhisperJudge x = withMany(3);
        due("before any begin()", x.ticks(), 0);
        due("the first tick of it", x.run(1, 4), 0);
        due("states", x.state(0) * 100 + x.state(1) * 10 + x.state(2), 303);
        due("ticks", x.ticks(), 1);
        x.run(REST, 6);
        due("the last thing as well", x.state(2), 0);
        x.begin();
        due("all in their FIRST states", x.state(0) * 100 + x.state(1) * 10 + x.state(2), 213);
        due("tick 0", x.ticks(), 0);
        x.begin();
        due("begun twice", x.state(0) * 100 + x.state(1) * 10 + x.state(2), 213);
        due("begun twice", x.ticks(), 0);
    }

    private static void longRun() {
        WhisperJudge x = with(CLOCK, 1);
        x.thing(CLOCK, 0);
        x.wall(1, CLEANED, 4);
        for (int i = 3; i < MOST_CALLS; i += 2) {
            int t = (i - 3) / 2;
            due("tick " + t, x.run(4, 3), t + 1 & 3);
            due("ticks", x.ticks(), t + 1);
        }
    }

    private static void oneJudgeForAllItsCalls() {
        WhisperJudge x = new WhisperJudge();
        int calls = 0;
        for (int i = 0; calls + 15 < MOST_CALLS; i++, calls += 15) {
            int first = i & 3;
            due("comes", x.thing(CLOCK, first), 0);
            due("comes", x.thing(QUEUE, first), 1);
            due("comes", x.thing(LOCK, i % 3), 2);
            due("none more", x.thing(CLOCK, 0), NONE);
            due("open", x.look(1), 0);
            due("letters", x.letters(3) > 1, true);
            x.give(2 + 4 * 2 + 16 * 2);
            due("parted", x.look(1), 3);
            due("letters", x.letters(3), 1);
            x.give(3 + 4 * 2 + 16 * 3);
            due("padded", x.look(1), 3);
            due("run", x.run(1, 1), 0);
            due("state", x.state(0), first + 2 & 3);
            due("ticks", x.ticks(), i + 1);
            x.clear();
        }
        due("ticks till begin()", x.ticks(), calls / 15);
    }
}
