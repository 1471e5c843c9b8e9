/** For each promise of the document what it says, worked out by hand: ordinary inputs, edges, wrong inputs. */
public final class PromiseTest {
    private static final int NONE = WhisperJudge.NONE;
    private static final int LINE = 0;
    private static final int QUEUE = 1;
    private static final int LOCK = 2;
    private static final int CLOCK = 3;
    private static final int REST = 9;
    private static final int CLEANED = 1;
    private static final int PARTED = 2;
    private static final int PADDED = 3;

    private static final Check check = new Check("PromiseTest");

    public static void main(String[] args) {
        p01New();
        p02Clear();
        p03Thing();
        p04Table();
        p05Wall();
        p06Set();
        p07Price();
        p08Look();
        p09Of();
        p10Does();
        p11Silent();
        p12Shown();
        p13Show();
        p14Letters();
        p15Letter();
        p16Begin();
        p17Run();
        p18State();
        p19Ticks();
        p20Walls();
        p21Give();
        check.end();
    }

    private static void due(String call, long got, long want) {
        check.due(call, got, want);
    }

    private static void due(String call, boolean got, boolean want) {
        check.due(call, got, want);
    }

    private static WhisperJudge with(int kind, int first) {
        WhisperJudge x = new WhisperJudge();
        due("thing(" + kind + ", " + first + ")", x.thing(kind, first), 0);
        return x;
    }

    private static long two(int party, int s, int a, long value) {
        return value << 2 * (12 * party + 3 * s + a);
    }

    private static void tick(String name, WhisperJudge x, int k, int t, int... want) {
        for (int what = 0; what < want.length; what++) {
            due(name + " show(" + k + ", " + t + ", " + what + ")", x.show(k, t, what), want[what]);
        }
    }

    private static void letter(String name, WhisperJudge x, int n, int i, int... want) {
        for (int j = 0; j < want.length; j++) {
            due(name + " letter(" + n + ", " + i + ", " + j / 3 + ", " + j % 3 + ")", x.letter(n, i, j / 3, j % 3), want[j]);
        }
    }

    private static void p01New() {
        due("P1 NONE", WhisperJudge.NONE, -1);
        WhisperJudge x = new WhisperJudge();
        for (int what = 0; what < 4; what++) {
            due("P1 new look(" + what + ")", x.look(what), 0);
        }
        due("P1 new ticks", x.ticks(), 0);
        due("P1 new state", x.state(0), NONE);
        due("P1 new of", x.of(0, 0), NONE);
        due("P1 new letters(3)", x.letters(3), 1);
        due("P1 new walls sum", x.walls(1, 2, 0), 0);
        due("P1 new walls number", x.walls(1, 2, 1), 0);
        due("P1 new rest", x.run(REST, REST), 0);
        WhisperJudge y = new WhisperJudge();
        x.thing(CLOCK, 1);
        due("P1 another's things are not its own", y.look(0), 0);
    }

    private static void p02Clear() {
        WhisperJudge x = with(CLOCK, 2);
        x.wall(0, PADDED, 2);
        x.set(0, CLEANED, 3);
        x.price(0, PADDED, 7);
        due("P2 letters before", x.letters(2), 3);
        x.run(REST, 0);
        x.clear();
        due("P2 look(0)", x.look(0), 0);
        due("P2 look(2)", x.look(2), 0);
        due("P2 look(3)", x.look(3), 0);
        due("P2 silent(0)", x.silent(0), NONE);
        due("P2 letters after", x.letters(2), 1);
        due("P2 run at none", x.run(0, REST), NONE);
        due("P2 only begin() sets the ticks back", x.ticks(), 1);
        due("P2 thing again", x.thing(CLOCK, 1), 0);
        due("P2 the wall is gone", x.of(0, 2), 0);
        due("P2 n of CLEANED is as at first", x.of(0, 3), 1);
        due("P2 n of PADDED is as at first", x.of(0, 4), 0);
        x.wall(0, PADDED, 2);
        due("P2 the price is as at first", x.look(2), 1);
        due("P2 state", x.state(0), 1);
    }

    private static void p03Thing() {
        int[] mostFirst = {2, 3, 2, 3};
        for (int kind = -1; kind <= 5; kind++) {
            for (int first = -1; first <= 4; first++) {
                WhisperJudge x = new WhisperJudge();
                boolean can = kind >= 0 && kind <= 3 && first >= 0 && first <= mostFirst[kind];
                due("P3 thing(" + kind + ", " + first + ")", x.thing(kind, first), can ? 0 : NONE);
                due("P3 look(0) behind it", x.look(0), can ? 1 : 0);
                due("P3 kind", x.of(0, 0), can ? kind : NONE);
                due("P3 first", x.of(0, 1), can ? first : NONE);
            }
        }
        WhisperJudge x = with(LINE, 0);
        due("P3 second", x.thing(QUEUE, 3), 1);
        due("P3 one that can't be takes no number", x.thing(LOCK, 3), NONE);
        due("P3 third", x.thing(LOCK, 2), 2);
        due("P3 fourth", x.thing(CLOCK, 0), NONE);
        due("P3 still three", x.look(0), 3);
        due("P3 the third stays", x.of(2, 0), LOCK);
    }

    private static void p04Table() {
        WhisperJudge x = new WhisperJudge();
        due("P4 first -1", x.table(-1, 0, 0), NONE);
        due("P4 first 4", x.table(4, 0, 0), NONE);
        due("P4 none came", x.look(0), 0);
        due("P4 first 3", x.table(3, two(0, 2, 1, 3) | two(1, 0, 2, 2), two(1, 3, 2, 3) | two(0, 0, 0, 1)), 0);
        due("P4 kind", x.of(0, 0), 4);
        due("P4 first", x.of(0, 1), 3);
        due("P4 next 0 2 1", x.does(0, 0, 2, 1, 0), 3);
        due("P4 next 1 0 2", x.does(0, 1, 0, 2, 0), 2);
        due("P4 next elsewhere", x.does(0, 1, 2, 1, 0), 0);
        due("P4 answer 1 3 2", x.does(0, 1, 3, 2, 1), 3);
        due("P4 answer 0 0 0", x.does(0, 0, 0, 0, 1), 1);
        due("P4 answer elsewhere", x.does(0, 1, 0, 0, 1), 0);
        due("P4 bits above 48", x.table(0, -1L << 48, -1L << 48), 1);
        for (int i = 0; i < 48; i++) {
            due("P4 bits above 48, " + i, x.does(1, i / 24, i / 6 % 4, i / 2 % 3, i % 2), 0);
        }
        due("P4 and they make it no less silent", x.silent(1), 1);
        due("P4 all bits", x.table(0, -1L, -1L), 2);
        for (int i = 0; i < 48; i++) {
            due("P4 all bits, " + i, x.does(2, i / 24, i / 6 % 4, i / 2 % 3, i % 2), 3);
        }
        due("P4 fourth", x.table(0, 0, 0), NONE);
    }

    private static void p05Wall() {
        for (int wall = -1; wall <= 4; wall++) {
            for (int n = -1; n <= 5; n++) {
                WhisperJudge x = with(CLOCK, 0);
                x.set(0, CLEANED, 2);
                x.set(0, PADDED, 1);
                boolean can = wall == 0 || wall == PARTED || wall == CLEANED && n >= 1 && n <= 4 || wall == PADDED && n >= 0 && n <= 3;
                due("P5 wall(0, " + wall + ", " + n + ")", x.wall(0, wall, n), can);
                due("P5 its wall", x.of(0, 2), can ? wall : 0);
                due("P5 its n of CLEANED", x.of(0, 3), can && wall == CLEANED ? n : 2);
                due("P5 its n of PADDED", x.of(0, 4), can && wall == PADDED ? n : 1);
            }
        }
        WhisperJudge x = with(CLOCK, 0);
        due("P5 no such thing", x.wall(1, PARTED, 0), false);
        due("P5 no such thing", x.wall(-1, PARTED, 0), false);
        due("P5 two walls, the later stands", x.wall(0, PARTED, 0) && x.wall(0, CLEANED, 4), true);
        due("P5 the later stands", x.of(0, 2), CLEANED);
        due("P5 a wrong n", x.wall(0, PADDED, 4), false);
        due("P5 does nothing", x.of(0, 2), CLEANED);
        due("P5 none again", x.wall(0, 0, 99), true);
        due("P5 none again", x.of(0, 2), 0);
    }

    private static void p06Set() {
        for (int wall = -1; wall <= 4; wall++) {
            for (int n = -1; n <= 5; n++) {
                WhisperJudge x = with(CLOCK, 0);
                x.wall(0, PARTED, 0);
                boolean cleaned = wall == CLEANED && n >= 1 && n <= 4;
                boolean padded = wall == PADDED && n >= 0 && n <= 3;
                due("P6 set(0, " + wall + ", " + n + ")", x.set(0, wall, n), cleaned || padded);
                due("P6 the wall stays", x.of(0, 2), PARTED);
                due("P6 n of CLEANED", x.of(0, 3), cleaned ? n : 1);
                due("P6 n of PADDED", x.of(0, 4), padded ? n : 0);
            }
        }
        WhisperJudge x = with(CLOCK, 0);
        due("P6 no such thing", x.set(1, CLEANED, 1), false);
        due("P6 no such thing", x.set(-1, CLEANED, 1), false);
        x.wall(0, CLEANED, 1);
        due("P6 silent before", x.silent(0), 1);
        x.set(0, CLEANED, 2);
        due("P6 it counts for the wall that stands", x.silent(0), 0);
    }

    private static void p07Price() {
        WhisperJudge x = with(CLOCK, 0);
        for (int wall = -1; wall <= 4; wall++) {
            for (int v : new int[] {-1, 0, 1, 99, 100}) {
                boolean can = wall >= 1 && wall <= 3 && v >= 0 && v <= 99;
                due("P7 price(0, " + wall + ", " + v + ")", x.price(0, wall, v), can);
                if (wall >= 1 && wall <= 3) {
                    x.wall(0, wall, 1);
                    due("P7 price of " + wall + " now", x.look(2), v == -1 ? 1 : Math.min(v, 99));
                }
            }
        }
        x.wall(0, 0, 0);
        due("P7 none costs nothing", x.look(2), 0);
        due("P7 no such thing", x.price(1, 1, 1), false);
        due("P7 no such thing", x.price(-1, 1, 1), false);
    }

    private static void p08Look() {
        WhisperJudge x = with(CLOCK, 0);
        x.thing(LINE, 0);
        x.thing(QUEUE, 0);
        x.wall(0, PADDED, 0);
        x.wall(2, PARTED, 0);
        x.price(0, PADDED, 40);
        x.price(2, PARTED, 99);
        x.price(1, PARTED, 13);
        due("P8 things", x.look(0), 3);
        due("P8 silent", x.look(1), 2);
        due("P8 prices", x.look(2), 139);
        due("P8 walls", x.look(3), 3 + 2 * 16);
        due("P8 another what", x.look(4), NONE);
        due("P8 another what", x.look(-1), NONE);
    }

    private static void p09Of() {
        WhisperJudge x = with(QUEUE, 2);
        x.table(1, 0, 0);
        int[] atFirst = {QUEUE, 2, 0, 1, 0};
        for (int what = 0; what < 5; what++) {
            due("P9 of(0, " + what + ")", x.of(0, what), atFirst[what]);
        }
        x.wall(1, CLEANED, 3);
        x.wall(1, PADDED, 2);
        int[] later = {4, 1, PADDED, 3, 2};
        for (int what = 0; what < 5; what++) {
            due("P9 of(1, " + what + ")", x.of(1, what), later[what]);
            due("P9 of(2, " + what + ")", x.of(2, what), NONE);
            due("P9 of(-1, " + what + ")", x.of(-1, what), NONE);
        }
        due("P9 another what", x.of(0, 5), NONE);
        due("P9 another what", x.of(0, -1), NONE);
    }

    /** Rows of next states and of answers: for party 0, acts 0, 1, 2 in states 0, 1, ..; then for party 1. */
    private static void effects(int kind, String nexts, String answers) {
        WhisperJudge x = with(kind, 0);
        x.wall(0, PARTED, 0);
        int states = nexts.length() / 6;
        for (int i = 0; i < nexts.length(); i++) {
            int party = i / (3 * states);
            int a = i / states % 3;
            int s = i % states;
            String call = "P10 kind " + kind + " does(0, " + party + ", " + s + ", " + a;
            due(call + ", 0)", x.does(0, party, s, a, 0), nexts.charAt(i) - '0');
            due(call + ", 1)", x.does(0, party, s, a, 1), answers.charAt(i) - '0');
        }
        for (int party = 0; party < 2; party++) {
            due("P10 state 3 of kind " + kind, x.does(0, party, 3, 2, 0), states == 4 ? 3 : NONE);
            due("P10 state 4 of kind " + kind, x.does(0, party, 4, 2, 0), NONE);
        }
    }

    private static void p10Does() {
        effects(LINE, "111" + "000" + "012" + "222" + "000" + "012", "101" + "000" + "000" + "110" + "000" + "000");
        effects(QUEUE, "1233" + "0012" + "0123" + "1233" + "0012" + "0123", "0001" + "1000" + "0000" + "0001" + "1000" + "0000");
        effects(LOCK, "112" + "002" + "012" + "212" + "010" + "012", "001" + "101" + "000" + "010" + "110" + "000");
        effects(CLOCK, "0123" + "1230" + "0123" + "0123" + "1230" + "0123", "0123" + "0000" + "0000" + "0123" + "0000" + "0000");
        WhisperJudge x = with(CLOCK, 1);
        x.wall(0, PADDED, 0);
        due("P10 padding aside", x.does(0, 1, 3, 0, 1), 3);
        int[][] wrong = {{-1, 0, 0, 0, 0}, {1, 0, 0, 0, 0}, {0, -1, 0, 0, 0}, {0, 2, 0, 0, 0}, {0, 0, -1, 0, 0}, {0, 0, 4, 0, 0},
            {0, 0, 0, -1, 0}, {0, 0, 0, 3, 0}, {0, 0, 0, 0, -1}, {0, 0, 0, 0, 2}};
        for (int[] w : wrong) {
            due("P10 wrong", x.does(w[0], w[1], w[2], w[3], w[4]), NONE);
        }
        x.run(1, REST);
        due("P10 it does nothing in the run", x.does(0, 0, 1, 1, 0) + 10 * x.state(0), 22);
    }

    private static void p11Silent() {
        WhisperJudge x = with(CLOCK, 0);
        due("P11 an open clock", x.silent(0), 0);
        due("P11 none such", x.silent(1), NONE);
        due("P11 none such", x.silent(-1), NONE);
        x.wall(0, PARTED, 0);
        due("P11 parted", x.silent(0), 1);
        x.wall(0, PADDED, 0);
        due("P11 padded by 0", x.silent(0), 1);
        x.wall(0, PADDED, 1);
        due("P11 padded by 1", x.silent(0), 0);
        x.wall(0, CLEANED, 1);
        due("P11 cleaned each tick", x.silent(0), 1);
        for (int n = 2; n <= 4; n++) {
            x.wall(0, CLEANED, n);
            due("P11 cleaned by " + n, x.silent(0), 0);
        }
        // A queue of 3 is told by one take; cleaned by 2 there is just the one tick for it, which is enough.
        WhisperJudge q = with(QUEUE, 3);
        q.wall(0, CLEANED, 2);
        due("P11 full queue cleaned by 2", q.silent(0), 0);
        // Two ticks of the sender are needed to come to state 2, the only one that the hearer knows apart.
        WhisperJudge y = new WhisperJudge();
        y.table(0, two(0, 0, 0, 1) | two(0, 1, 0, 2) | two(1, 1, 0, 1) | two(1, 2, 0, 2), two(1, 2, 0, 1));
        due("P11 two steps away", y.silent(0), 0);
        due("P11 two steps away", y.shown(0), 2);
        y.wall(0, CLEANED, 2);
        due("P11 never two steps between cleanings", y.silent(0), 1);
        y.wall(0, CLEANED, 3);
        due("P11 two steps between cleanings", y.silent(0), 0);
    }

    private static void p12Shown() {
        due("P12 lock", with(LOCK, 0).shown(0), 1);
        due("P12 line", with(LINE, 0).shown(0), 2);
        due("P12 line of the hearer", with(LINE, 2).shown(0), 1);
        due("P12 none such", with(LINE, 0).shown(1), NONE);
        due("P12 none such", with(LINE, 0).shown(-1), NONE);
        WhisperJudge two = with(LINE, 0);
        two.thing(QUEUE, 3);
        for (int i = 0; i < 3; i++) {
            due("P12 the one", two.shown(0), 2);
            due("P12 and the other", two.shown(1), 1);
            two.set(0, CLEANED, 1 + i);
        }
        two.wall(0, CLEANED, 2);
        due("P12 the one cleaned by 2", two.shown(0), 3);
        two.wall(0, CLEANED, 3);
        due("P12 the one cleaned by 3", two.shown(0), 2);
        WhisperJudge x = with(CLOCK, 1);
        x.wall(0, PARTED, 0);
        due("P12 silent", x.shown(0), NONE);
        x.wall(0, PADDED, 2);
        due("P12 clock at 1 padded by 2", x.shown(0), 1);
        // By padding 2 and 3 are alike: two ticks, so that 3 becomes 0.
        WhisperJudge y = with(CLOCK, 2);
        y.wall(0, PADDED, 2);
        due("P12 clock at 2 padded by 2", y.shown(0), 2);
        y.wall(0, PADDED, 3);
        due("P12 clock at 2 padded by 3", y.shown(0), 1);
    }

    private static void p13Show() {
        WhisperJudge x = with(LOCK, 0);
        tick("P13 lock", x, 0, 0, 0, 1, 0, 1, 0);
        tick("P13 full queue", with(QUEUE, 3), 0, 0, 0, 1, 0, 1, 0);
        WhisperJudge y = with(QUEUE, 0);
        y.thing(LINE, 0);
        y.wall(1, CLEANED, 2);
        tick("P13 empty queue", y, 0, 0, 0, 1, 1, 0, 1);
        due("P13 line cleaned by 2", y.shown(1), 3);
        tick("P13 line cleaned by 2", y, 1, 0, 3, 3, 3, 1, 1);
        tick("P13 line cleaned by 2", y, 1, 1, 3, 3, 3, 1, 1);
        tick("P13 line cleaned by 2", y, 1, 2, 3, 5, 3, 1, 0);
        due("P13 tick behind the last", y.show(1, 3, 0), NONE);
        due("P13 tick before the first", y.show(1, -1, 0), NONE);
        due("P13 another what", y.show(1, 0, 5), NONE);
        due("P13 another what", y.show(1, 0, -1), NONE);
        due("P13 none such", y.show(2, 0, 0), NONE);
        due("P13 none such", y.show(-1, 0, 0), NONE);
        y.wall(1, PARTED, 0);
        due("P13 silent", y.show(1, 0, 0), NONE);
        // All acts of the sender lead away from state 0 alike, so B must rest; the hearer's act 1 alone tells.
        WhisperJudge z = new WhisperJudge();
        z.table(0, two(0, 0, 0, 1) | two(0, 0, 1, 1) | two(0, 0, 2, 1), two(1, 1, 1, 3) | two(1, 0, 1, 2));
        tick("P13 rest of the sender", z, 0, 0, 0, 9, 1, 3, 2);
        // Whatever the hearer does spoils it but REST: 0 to 1, then to 2, and only 2 is told.
        WhisperJudge r = new WhisperJudge();
        r.table(0, two(0, 0, 0, 1) | two(0, 1, 0, 2), two(1, 2, 0, 1));
        due("P13 rest of the hearer", r.shown(0), 2);
        tick("P13 rest of the hearer", r, 0, 0, 0, 0, 9, 0, 0);
        tick("P13 rest of the hearer", r, 0, 1, 0, 1, 0, 1, 0);
        // B must do 1, 2, 1 to come to state 3, and the hearer must do what keeps 1 and then what keeps 2.
        WhisperJudge c = new WhisperJudge();
        c.table(0, two(0, 0, 1, 1) | two(0, 1, 2, 2) | two(0, 2, 1, 3) | two(1, 1, 0, 1) | two(1, 2, 1, 2), two(1, 3, 0, 2));
        due("P13 three steps away", c.shown(0), 3);
        tick("P13 three steps away", c, 0, 0, 0, 1, 0, 0, 0);
        tick("P13 three steps away", c, 0, 1, 0, 2, 1, 0, 0);
        tick("P13 three steps away", c, 0, 2, 0, 1, 0, 0, 2);
        // Padding tells 2 for 3 in A already.
        WhisperJudge p = with(CLOCK, 2);
        p.wall(0, PADDED, 2);
        tick("P13 padded clock", p, 0, 0, 0, 0, 1, 0, 0);
        tick("P13 padded clock", p, 0, 1, 0, 1, 0, 2, 0);
    }

    private static void p14Letters() {
        WhisperJudge x = with(CLOCK, 2);
        int[] clock = {1, 2, 4, 8};
        int[] padded = {1, 1, 3};
        for (int n = 0; n < 4; n++) {
            due("P14 clock letters(" + n + ")", x.letters(n), clock[n]);
        }
        x.wall(0, PADDED, 2);
        for (int n = 0; n < 3; n++) {
            due("P14 padded clock letters(" + n + ")", x.letters(n), padded[n]);
        }
        x.wall(0, CLEANED, 1);
        due("P14 cleaned clock", x.letters(3), 1);
        x.wall(0, CLEANED, 2);
        due("P14 clock cleaned by 2: tick 1 tells nothing", x.letters(2), 2);
        due("P14 clock cleaned by 2: tick 2 does again", x.letters(3), 4);
        due("P14 n -1", x.letters(-1), NONE);
        due("P14 n 4", x.letters(4), NONE);
        x.begin();
        x.run(1, REST);
        due("P14 from the FIRST state, not that of the run", x.letters(2), 2);
        // Each tick the sender chooses one of four states and the hearer is told it: 4, 16, 64.
        WhisperJudge y = new WhisperJudge();
        long next = 0;
        long answers = 0;
        for (int s = 0; s < 4; s++) {
            next |= two(0, s, 0, 1) | two(0, s, 1, 2) | two(0, s, 2, 3);
            answers |= two(1, s, 0, s);
        }
        y.table(0, next, answers);
        y.thing(CLOCK, 0);
        y.clear();
        y.thing(CLOCK, 0);
        due("P14 a clock alone", y.letters(1), 2);
        due("P14 a table comes", y.table(0, next, answers), 1);
        due("P14 and more can be told", y.letters(1), 4);
        y.clear();
        y.table(0, next, answers);
        int[] all = {1, 4, 16, 64};
        for (int n = 0; n < 4; n++) {
            due("P14 all letters(" + n + ")", y.letters(n), all[n]);
        }
    }

    private static void p15Letter() {
        WhisperJudge x = with(CLOCK, 2);
        letter("P15 clock", x, 1, 0, 0, 2, 0);
        letter("P15 clock", x, 1, 1, 0, 3, 1);
        letter("P15 clock", x, 2, 0, 0, 2, 0, 0, 2, 0);
        letter("P15 clock", x, 2, 1, 0, 2, 0, 0, 3, 1);
        letter("P15 clock: 3 and then 0 behind it", x, 2, 2, 0, 3, 1, 0, 0, 1);
        letter("P15 clock", x, 2, 3, 0, 3, 1, 0, 3, 0);
        letter("P15 clock", x, 3, 0, 0, 2, 0, 0, 2, 0, 0, 2, 0);
        letter("P15 clock", x, 3, 7, 0, 3, 1, 0, 3, 0, 0, 3, 0);
        due("P15 tick 3 of 3", x.letter(3, 0, 3, 0), NONE);
        due("P15 letter 8 of 8", x.letter(3, 8, 0, 0), NONE);
        due("P15 letter behind the last", x.letter(2, 4, 0, 0), NONE);
        due("P15 letter -1", x.letter(2, -1, 0, 0), NONE);
        due("P15 tick 2 of 2", x.letter(2, 0, 2, 0), NONE);
        due("P15 tick -1", x.letter(2, 0, -1, 0), NONE);
        due("P15 another what", x.letter(2, 0, 0, 3), NONE);
        due("P15 another what", x.letter(2, 0, 0, -1), NONE);
        due("P15 n 4", x.letter(4, 0, 0, 0), NONE);
        due("P15 n -1", x.letter(-1, 0, 0, 0), NONE);
        due("P15 of no ticks there is none", x.letter(0, 0, 0, 0), NONE);
        letter("P15 nothing is shared", new WhisperJudge(), 2, 0, 9, 0, 9, 9, 0, 9);
        // Padded by 2, so 2 and 3 are alike: first push (1), as then 3 different numbers can come: 0, 1, 2.
        WhisperJudge p = with(CLOCK, 2);
        p.wall(0, PADDED, 2);
        letter("P15 padded clock", p, 2, 0, 1, 0, 0, 0, 0, 1);
        letter("P15 padded clock", p, 2, 1, 1, 0, 1, 0, 1, 1);
        letter("P15 padded clock", p, 2, 2, 1, 0, 0, 0, 2, 0);
        // The sender's acts all lead to state 1: the letter 0 is sent by REST.
        WhisperJudge r = new WhisperJudge();
        r.table(0, two(0, 0, 0, 1) | two(0, 0, 1, 1) | two(0, 0, 2, 1), two(1, 1, 0, 1));
        letter("P15 rest of the sender", r, 1, 0, 0, 0, 9);
        letter("P15 rest of the sender", r, 1, 1, 0, 1, 0);
        // Whatever the hearer does leaves state 0, and only state 2 is told, two steps away: it must rest first.
        WhisperJudge h = new WhisperJudge();
        h.table(0, two(0, 0, 0, 1) | two(0, 1, 0, 2), two(1, 2, 0, 1));
        letter("P15 rest of the hearer", h, 2, 0, 9, 0, 0, 0, 0, 1);
        letter("P15 rest of the hearer", h, 2, 1, 9, 0, 0, 0, 1, 0);
        // What the hearer does next hangs on what was answered: in state 1 act 1 tells more, in state 0 act 0.
        WhisperJudge b = new WhisperJudge();
        b.table(0, two(0, 0, 0, 1) | two(0, 1, 0, 1) | two(0, 1, 1, 2) | two(0, 1, 2, 3) | two(0, 2, 0, 2) | two(0, 3, 0, 3)
                | two(1, 1, 0, 1), two(1, 1, 0, 1) | two(1, 1, 1, 1) | two(1, 2, 1, 2) | two(1, 3, 1, 3));
        letter("P15 branches", b, 2, 0, 0, 0, 1, 0, 0, 1);
        letter("P15 branches", b, 2, 1, 0, 0, 1, 0, 1, 0);
        letter("P15 branches", b, 2, 2, 0, 1, 0, 1, 1, 0);
        letter("P15 branches", b, 2, 3, 0, 1, 0, 1, 2, 1);
        letter("P15 branches", b, 2, 4, 0, 1, 0, 1, 3, 2);
        due("P15 branches", b.letters(2), 5);
    }

    private static void p16Begin() {
        WhisperJudge x = with(CLOCK, 2);
        x.thing(QUEUE, 0);
        x.run(1, 3);
        due("P16 the run", x.state(0) * 100 + x.state(1) * 10 + x.ticks(), 311);
        x.wall(0, PADDED, 3);
        x.begin();
        due("P16 begun", x.state(0) * 100 + x.state(1) * 10 + x.ticks(), 200);
        due("P16 walls stay", x.of(0, 2), PADDED);
        // Cleaning counts from the beginning.
        x.wall(0, CLEANED, 2);
        x.run(1, REST);
        x.begin();
        x.run(1, REST);
        due("P16 tick 0 is not cleaned by 2", x.state(0), 3);
        x.run(1, REST);
        due("P16 tick 1 is", x.state(0), 2);
    }

    private static void p17Run() {
        WhisperJudge x = with(LINE, 0);
        x.thing(LOCK, 0);
        x.begin();
        due("P17 sender first, then hearer", x.run(3, 3), 1);
        due("P17 the lock is the sender's", x.state(1), 1);
        due("P17 hearer touches", x.run(REST, 0), 1);
        due("P17 its own now", x.run(REST, 0), 0);
        due("P17 sender touches between", x.run(0, 0), 1);
        due("P17 sender drops", x.run(1, 2), 0);
        due("P17 nobody's", x.state(0), 0);
        due("P17 rest is answered 0", x.run(0, REST), 0);
        due("P17 and the sender's act is done", x.state(0), 1);
        int[][] wrong = {{6, 0}, {0, 6}, {8, REST}, {-1, 0}, {0, -1}, {10, 0}, {REST, 10}, {Integer.MIN_VALUE, 0}, {0, Integer.MAX_VALUE}};
        for (int[] w : wrong) {
            due("P17 run(" + w[0] + ", " + w[1] + ")", x.run(w[0], w[1]), NONE);
            due("P17 nothing is done", x.state(0) * 100 + x.state(1) * 10 + x.ticks(), 116);
        }
        WhisperJudge c = with(CLOCK, 3);
        c.wall(0, PADDED, 2);
        due("P17 padded: 3 is told as 2", c.run(REST, 0), 2);
        c.wall(0, PADDED, 3);
        due("P17 padded by 3 leaves 3", c.run(REST, 0), 3);
        c.wall(0, PARTED, 0);
        due("P17 parted: the sender changes nothing", c.run(1, 0), 3);
        due("P17 parted: the hearer does", c.run(1, 1), 0);
        due("P17 parted: the hearer does", c.state(0), 0);
        c.begin();
        c.wall(0, CLEANED, 3);
        due("P17 tick 0", c.run(1, 0), 0);
        due("P17 tick 1", c.run(1, 1), 0);
        due("P17 tick 2 is cleaned behind the sender, before the hearer", c.run(1, 0), 3);
        due("P17 tick 3", c.run(REST, 1), 0);
        due("P17 tick 3", c.state(0), 0);
        due("P17 a cleaned thing is so when others are acted at", c.run(REST, REST) + c.run(REST, REST) + c.state(0), 3);
    }

    private static void p18State() {
        WhisperJudge x = with(QUEUE, 1);
        due("P18 it comes in its FIRST state", x.state(0), 1);
        x.run(0, 0);
        due("P18 two more", x.state(0), 3);
        due("P18 one that comes in a run", x.thing(CLOCK, 2), 1);
        due("P18 is in its FIRST state", x.state(1), 2);
        due("P18 the other stays", x.state(0), 3);
        due("P18 none such", x.state(2), NONE);
        due("P18 none such", x.state(-1), NONE);
        due("P18 a wall changes no state", x.wall(0, CLEANED, 1), true);
        due("P18 a wall changes no state", x.state(0), 3);
        x.run(REST, REST);
        due("P18 it counts from then on", x.state(0), 1);
    }

    private static void p19Ticks() {
        WhisperJudge x = new WhisperJudge();
        x.run(REST, REST);
        x.run(0, REST);
        due("P19 one that can't be is no tick", x.ticks(), 1);
        x.thing(CLOCK, 0);
        due("P19 a thing that comes changes it not", x.ticks(), 1);
        x.run(0, 1);
        due("P19 two", x.ticks(), 2);
        x.letters(3);
        x.shown(0);
        due("P19 judging is no tick", x.ticks(), 2);
        x.begin();
        due("P19 begin", x.ticks(), 0);
        for (int i = 1; i <= 100; i++) {
            x.run(1, 0);
            due("P19 " + i, x.ticks(), i);
        }
    }

    private static void walls(String name, WhisperJudge x, int m, int n, int sum, int number) {
        due(name + " walls(" + m + ", " + n + ", 0)", x.walls(m, n, 0), sum);
        due(name + " walls(" + m + ", " + n + ", 1)", x.walls(m, n, 1), number);
    }

    private static void p20Walls() {
        WhisperJudge x = with(CLOCK, 0);
        x.thing(CLOCK, 2);
        walls("P20 both by the least number", x, 1, 1, 2, 5);
        walls("P20 two letters may be", x, 2, 1, 0, 0);
        walls("P20 no ticks", x, 1, 0, 0, 0);
        x.price(0, PARTED, 0);
        walls("P20 a wall for nothing", x, 1, 1, 1, 6);
        x.price(1, CLEANED, 99);
        x.price(1, PARTED, 98);
        x.price(1, PADDED, 97);
        walls("P20 the cheapest", x, 1, 1, 97, 2 + 3 * 4);
        x.set(1, PADDED, 2);
        walls("P20 padded by 2: of one tick none", x, 1, 1, 97, 2 + 3 * 4);
        walls("P20 padded by 2: too much in two", x, 1, 2, 98, 2 + 2 * 4);
        x.wall(0, PADDED, 1);
        x.wall(1, CLEANED, 1);
        walls("P20 the walls that stand do not count", x, 1, 2, 98, 2 + 2 * 4);
        due("P20 and they stay", x.look(3), 3 + 4);
        walls("P20 many letters", x, 4096, 2, 0, 0);
        for (int[] w : new int[][] {{0, 1, 0}, {4097, 1, 0}, {-1, 1, 0}, {1, -1, 0}, {1, 3, 0}, {1, 1, -1}, {1, 1, 2}}) {
            due("P20 walls(" + w[0] + ", " + w[1] + ", " + w[2] + ")", x.walls(w[0], w[1], w[2]), NONE);
        }
        // Two letters, but only for a hearer that rests first (see promise 15): they count as well.
        WhisperJudge h = new WhisperJudge();
        h.table(0, two(0, 0, 0, 1) | two(0, 1, 0, 2), two(1, 2, 0, 1));
        walls("P20 rest of the hearer", h, 2, 2, 0, 0);
        walls("P20 rest of the hearer", h, 1, 2, 1, 1);
        walls("P20 nothing is shared", new WhisperJudge(), 1, 2, 0, 0);
    }

    private static void p21Give() {
        WhisperJudge x = with(CLOCK, 0);
        x.thing(QUEUE, 0);
        x.set(0, CLEANED, 3);
        due("P21 give(13)", x.give(1 + 3 * 4), true);
        due("P21 of(0, 2)", x.of(0, 2), CLEANED);
        due("P21 its n stays", x.of(0, 3), 3);
        due("P21 of(1, 2)", x.of(1, 2), PADDED);
        due("P21 give(-1)", x.give(-1), false);
        due("P21 give(64)", x.give(64), false);
        due("P21 nothing is done", x.look(3), 13);
        due("P21 of a third one", x.give(2 + 3 * 16), true);
        due("P21 does not count", x.look(3), 2);
        due("P21 nor later", x.thing(LOCK, 0), 2);
        due("P21 nor later", x.of(2, 2), 0);
        due("P21 give(63)", x.give(63), true);
        due("P21 give(63)", x.look(3), 63);
        due("P21 it counts", x.look(1), 3);
        due("P21 give(0)", x.give(0), true);
        due("P21 give(0)", x.look(3), 0);
        due("P21 it counts", x.look(1), 0);
        due("P21 with none", new WhisperJudge().give(63), true);
    }
}
