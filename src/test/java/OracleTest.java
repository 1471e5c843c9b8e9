import java.util.ArrayList;
import java.util.List;
import java.util.Random;

/** Random calls on a WhisperJudge and on the Oracle; all answers must be the same. */
public final class OracleTest {
    private static final Check check = new Check("OracleTest");
    private static Random random;
    private static WhisperJudge x;
    private static Oracle o;

    public static void main(String[] args) {
        for (int seed = 0; seed < 300; seed++) {
            runOfCalls(seed);
        }
        check.end();
    }

    private static void runOfCalls(int seed) {
        random = new Random(seed);
        x = new WhisperJudge();
        o = new Oracle();
        check.due(at(seed, "look(0)"), x.look(0), o.look(0));
        int blocks = 1 + random.nextInt(3);
        for (int block = 0; block < blocks; block++) {
            makeThings(seed);
            for (int i = 0; i < 40; i++) {
                cheapCall(seed, random.nextInt(14));
            }
            allOfPairs(seed);
            whispers(seed, random.nextInt(12) == 0 ? 3 : 2);
            dearWalls(seed);
            runs(seed);
            if (random.nextInt(2) == 0) {
                x.clear();
                o.clear();
            }
        }
    }

    private static String at(int seed, String call) {
        return "seed " + seed + ", " + call;
    }

    /** Mostly 0 .. most - 1, now and then beside it or far away. */
    private static int about(int most) {
        int roll = random.nextInt(24);
        if (roll == 0) {
            return -1 - random.nextInt(3);
        }
        if (roll == 1) {
            return most + random.nextInt(3);
        }
        if (roll == 2) {
            return random.nextInt();
        }
        return random.nextInt(most);
    }

    private static int act() {
        return random.nextInt(5) == 0 ? 9 : about(9);
    }

    private static void makeThings(int seed) {
        int many = random.nextInt(5);
        for (int i = 0; i < many; i++) {
            if (random.nextInt(5) < 2) {
                int first = about(4);
                long next = random.nextLong();
                long answers = answers();
                check.due(at(seed, "table(" + first + ")"), x.table(first, next, answers), o.table(first, next, answers));
            } else {
                int kind = about(4);
                int first = about(4);
                check.due(at(seed, "thing(" + kind + ", " + first + ")"), x.thing(kind, first), o.thing(kind, first));
            }
        }
    }

    /** The fewer answers there are but 0, the longer are the pairs. */
    private static long answers() {
        int roll = random.nextInt(4);
        if (roll == 0) {
            return 1L << random.nextInt(48);
        }
        return roll == 1 ? random.nextLong() & random.nextLong() & random.nextLong() : random.nextLong();
    }

    private static void cheapCall(int seed, int which) {
        int k = about(3);
        int a = about(4);
        int b = about(5);
        int c = about(3);
        String of = "(" + k + ", " + a + ", " + b + ", " + c + ")";
        switch (which) {
            case 0:
            case 1:
                check.due(at(seed, "wall" + of), x.wall(k, a, b), o.wall(k, a, b));
                break;
            case 2:
                check.due(at(seed, "set" + of), x.set(k, a, b), o.set(k, a, b));
                break;
            case 3:
                int v = about(100);
                check.due(at(seed, "price" + of + v), x.price(k, a, v), o.price(k, a, v));
                break;
            case 4:
                check.due(at(seed, "look" + of), x.look(a), o.look(a));
                break;
            case 5:
                check.due(at(seed, "of" + of), x.of(k, b), o.of(k, b));
                break;
            case 6:
            case 7:
                int party = about(2);
                int what = about(2);
                check.due(at(seed, "does" + of + party + what), x.does(k, party, a, c, what), o.does(k, party, a, c, what));
                break;
            case 8:
                int number = about(64);
                check.due(at(seed, "give " + number), x.give(number), o.give(number));
                break;
            case 9:
            case 10:
                int sender = act();
                int hearer = act();
                check.due(at(seed, "run(" + sender + ", " + hearer + ")"), x.run(sender, hearer), o.run(sender, hearer));
                break;
            case 11:
                check.due(at(seed, "ticks()"), x.ticks(), o.ticks());
                break;
            case 12:
                check.due(at(seed, "state" + of), x.state(k), o.state(k));
                break;
            default:
                if (random.nextInt(4) == 0) {
                    x.begin();
                    o.begin();
                }
        }
    }

    private static void allOfPairs(int seed) {
        for (int k = -1; k < 4; k++) {
            int shown = o.shown(k);
            check.due(at(seed, "silent(" + k + ")"), x.silent(k), o.silent(k));
            check.due(at(seed, "shown(" + k + ")"), x.shown(k), shown);
            for (int t = -1; t <= shown; t++) {
                for (int what = -1; what <= 5; what++) {
                    check.due(at(seed, "show(" + k + ", " + t + ", " + what + ")"), x.show(k, t, what), o.show(k, t, what));
                }
            }
        }
    }

    private static void whispers(int seed, int most) {
        for (int n = -1; n <= most; n++) {
            List<int[][]> letters = n < 0 ? new ArrayList<>() : o.whisper(n);
            int many = n < 0 ? WhisperJudge.NONE : letters.size();
            check.due(at(seed, "letters(" + n + ")"), x.letters(n), n < 3 ? o.letters(n) : many);
            for (int i = 0; i < many; i++) {
                int[][] letter = letters.get(i);
                for (int t = 0; t < n; t++) {
                    for (int what = 0; what < 3; what++) {
                        check.due(at(seed, "letter(" + n + ", " + i + ", " + t + ", " + what + ")"), x.letter(n, i, t, what), letter[t][what]);
                    }
                }
            }
            int i = about(5);
            int t = about(3);
            int what = about(3);
            if (n < 3) {
                check.due(at(seed, "letter(" + n + ", " + i + ", " + t + ", " + what + ")"), x.letter(n, i, t, what), o.letter(n, i, t, what));
            }
        }
        check.due(at(seed, "letters(4)"), x.letters(4), WhisperJudge.NONE);
    }

    private static void dearWalls(int seed) {
        int m = random.nextInt(6) == 0 ? about(4097) : about(10);
        int n = about(3);
        for (int what = 0; what < 2; what++) {
            check.due(at(seed, "walls(" + m + ", " + n + ", " + what + ")"), x.walls(m, n, what), o.walls(m, n, what));
        }
    }

    private static void runs(int seed) {
        for (int i = 0; i < 20; i++) {
            cheapCall(seed, 9);
            for (int k = -1; k < 4; k++) {
                check.due(at(seed, "state(" + k + ")"), x.state(k), o.state(k));
            }
            if (random.nextInt(6) == 0) {
                cheapCall(seed, random.nextInt(14));
            }
        }
        check.due(at(seed, "ticks()"), x.ticks(), o.ticks());
    }
}
