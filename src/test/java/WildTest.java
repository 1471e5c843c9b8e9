/** Any arguments in any state: no call may throw, and what can't be is answered NONE or false as the Oracle says. */
public final class WildTest {
    private static final int[] WILD = {Integer.MIN_VALUE, Integer.MIN_VALUE + 1, -65, -3, -2, -1, 0, 1, 2, 3, 4, 5, 8, 9, 10, 63, 64,
        4096, 4097, 1 << 30, Integer.MAX_VALUE};
    private static final int MOST_CALLS = 512;

    private static final Check check = new Check("WildTest");
    private static WhisperJudge x;
    private static Oracle o;
    private static int calls;
    private static int things;

    public static void main(String[] args) {
        for (things = 0; things <= 3; things++) {
            calls = MOST_CALLS;
            one();
            two();
            three();
            does();
            letter();
        }
        check.end();
    }

    /** A new pair of objects when the one there has been used for as many calls as it may. */
    private static void fresh() {
        if (++calls < MOST_CALLS) {
            return;
        }
        x = new WhisperJudge();
        o = new Oracle();
        int[][] made = {{3, 2}, {0, 1}};
        for (int k = 0; k < Math.min(things, made.length); k++) {
            x.thing(made[k][0], made[k][1]);
            o.thing(made[k][0], made[k][1]);
        }
        if (things == 3) {
            x.table(3, 0x123456789abcdefL, 0xfedcba987654321L);
            o.table(3, 0x123456789abcdefL, 0xfedcba987654321L);
        }
        calls = 3;
    }

    private static String call(String name, int... args) {
        StringBuilder text = new StringBuilder(things + " things, " + name + "(");
        for (int i = 0; i < args.length; i++) {
            text.append(i == 0 ? "" : ", ").append(args[i]);
        }
        return text.append(")").toString();
    }

    private static void one() {
        for (int a : WILD) {
            fresh();
            check.due(call("look", a), x.look(a), o.look(a));
            fresh();
            check.due(call("silent", a), x.silent(a), o.silent(a));
            fresh();
            check.due(call("shown", a), x.shown(a), o.shown(a));
            fresh();
            check.due(call("letters", a), x.letters(a), a == 3 ? x.letters(3) : o.letters(a));
            fresh();
            check.due(call("state", a), x.state(a), o.state(a));
            fresh();
            check.due(call("give", a), x.give(a), o.give(a));
        }
    }

    private static void two() {
        for (int a : WILD) {
            for (int b : WILD) {
                fresh();
                check.due(call("of", a, b), x.of(a, b), o.of(a, b));
                fresh();
                check.due(call("run", a, b), x.run(a, b), o.run(a, b));
                fresh();
                check.due(call("thing", a, b), x.thing(a, b), o.thing(a, b));
                fresh();
                check.due(call("table", a, b), x.table(a, b, -1L), o.table(a, b, -1L));
                fresh();
                check.due(call("state", b), x.state(b), o.state(b));
                calls = things == 3 ? calls : MOST_CALLS;
            }
        }
    }

    private static void three() {
        for (int a : WILD) {
            for (int b : WILD) {
                for (int c : WILD) {
                    fresh();
                    check.due(call("wall", a, b, c), x.wall(a, b, c), o.wall(a, b, c));
                    fresh();
                    check.due(call("set", a, b, c), x.set(a, b, c), o.set(a, b, c));
                    fresh();
                    check.due(call("price", a, b, c), x.price(a, b, c), o.price(a, b, c));
                    fresh();
                    boolean none = a < 0 || a >= things || b < 0 || c < 0 || c > 4;
                    check.due(call("show", a, b, c), x.show(a, b, c), none ? Oracle.NONE : o.show(a, b, c));
                    fresh();
                    boolean cant = a < 1 || a > 4096 || b < 0 || b > 2 || c < 0 || c > 1;
                    check.due(call("walls", a, b, c), x.walls(a, b, c), cant ? Oracle.NONE : o.walls(a, b, c));
                }
            }
        }
    }

    private static void does() {
        for (int k : WILD) {
            for (int party : WILD) {
                for (int state : WILD) {
                    for (int what : WILD) {
                        for (int a = -1; a <= 3; a++) {
                            fresh();
                            check.due(call("does", k, party, state, a, what), x.does(k, party, state, a, what), o.does(k, party, state, a, what));
                        }
                        fresh();
                        check.due(call("does", k, party, state, what, 0), x.does(k, party, state, what, 0), o.does(k, party, state, what, 0));
                    }
                }
            }
        }
    }

    private static void letter() {
        for (int n : WILD) {
            for (int i : WILD) {
                for (int t : WILD) {
                    for (int what : WILD) {
                        fresh();
                        boolean none = n < 0 || n > 3 || i < 0 || i >= 64 || t < 0 || t >= n || what < 0 || what > 2;
                        int got = x.letter(n, i, t, what);
                        boolean there = !none && i < x.letters(n);
                        check.due(call("letter there", n, i, t, what), got != Oracle.NONE, there);
                    }
                }
            }
        }
    }
}
