import java.util.ArrayList;
import java.util.List;

/**
 * The document said over again, as literally as it can be: rows of acts are written out and tried, nothing is
 * folded into sets and nothing is kept. Slow, and independent of how WhisperJudge finds its answers.
 */
final class Oracle {
    static final int NONE = -1;

    static final class Thing {
        int kind;
        int first;
        int state;
        int wall;
        int clean = 1;
        int pad;
        long next;
        long answers;
        int[] price = {0, 1, 1, 1};
    }

    /** Rows of the sender's acts that the hearer can't tell apart so far, each with the states it led to. */
    private static final class Row {
        final int[] acts;
        int[] states;

        Row(int[] acts, int[] states) {
            this.acts = acts;
            this.states = states;
        }
    }

    private final List<Thing> things = new ArrayList<>();
    private int ticks;

    void clear() {
        things.clear();
    }

    int thing(int kind, int first) {
        if (kind != 0 && kind != 1 && kind != 2 && kind != 3) {
            return NONE;
        }
        return add(kind, first, 0, 0);
    }

    int table(int first, long next, long answers) {
        return add(4, first, next, answers);
    }

    private int add(int kind, int first, long next, long answers) {
        if (things.size() == 3 || !stateCanBe(kind, first)) {
            return NONE;
        }
        Thing x = new Thing();
        x.kind = kind;
        x.first = first;
        x.state = first;
        x.next = next;
        x.answers = answers;
        things.add(x);
        return things.size() - 1;
    }

    private static boolean stateCanBe(int kind, int state) {
        if (state == 3) {
            return kind != 0 && kind != 2;
        }
        return state == 0 || state == 1 || state == 2;
    }

    private boolean none(int k) {
        return k < 0 || k >= things.size();
    }

    boolean wall(int k, int wall, int n) {
        if (none(k) || wall < 0 || wall > 3) {
            return false;
        }
        if ((wall == 1 || wall == 3) && !set(k, wall, n)) {
            return false;
        }
        things.get(k).wall = wall;
        return true;
    }

    boolean set(int k, int wall, int n) {
        if (none(k)) {
            return false;
        }
        if (wall == 1 && n >= 1 && n <= 4) {
            things.get(k).clean = n;
            return true;
        }
        if (wall == 3 && n >= 0 && n <= 3) {
            things.get(k).pad = n;
            return true;
        }
        return false;
    }

    boolean price(int k, int wall, int v) {
        if (none(k) || wall < 1 || wall > 3 || v < 0 || v > 99) {
            return false;
        }
        things.get(k).price[wall] = v;
        return true;
    }

    int look(int what) {
        int silent = 0;
        int sum = 0;
        int number = 0;
        int power = 1;
        for (int k = 0; k < things.size(); k++) {
            if (what == 1) {
                silent += silent(k);
            }
            sum += things.get(k).price[things.get(k).wall];
            number += power * things.get(k).wall;
            power *= 4;
        }
        int[] all = {things.size(), silent, sum, number};
        return what < 0 || what > 3 ? NONE : all[what];
    }

    int of(int k, int what) {
        if (none(k) || what < 0 || what > 4) {
            return NONE;
        }
        Thing x = things.get(k);
        return new int[] {x.kind, x.first, x.wall, x.clean, x.pad}[what];
    }

    int does(int k, int party, int state, int a, int what) {
        if (none(k) || party < 0 || party > 1 || a < 0 || a > 2 || what < 0 || what > 1) {
            return NONE;
        }
        if (!stateCanBe(things.get(k).kind, state)) {
            return NONE;
        }
        return effect(things.get(k), party, state, a)[what];
    }

    /** The next state and the answer. */
    private static int[] effect(Thing x, int party, int state, int a) {
        int own = party == 0 ? 1 : 2;
        if (x.kind == 4) {
            int place = 12 * party + 3 * state + a;
            return new int[] {two(x.next, place), two(x.answers, place)};
        }
        if (a == 2) {
            return new int[] {state, 0};
        }
        if (x.kind == 0) {
            return a == 0 ? new int[] {own, state == own ? 0 : 1} : new int[] {0, 0};
        }
        if (x.kind == 1 && a == 0) {
            return state == 3 ? new int[] {3, 1} : new int[] {state + 1, 0};
        }
        if (x.kind == 1) {
            return state == 0 ? new int[] {0, 1} : new int[] {state - 1, 0};
        }
        if (x.kind == 2 && a == 0) {
            return state == 0 || state == own ? new int[] {own, 0} : new int[] {state, 1};
        }
        if (x.kind == 2) {
            return state == own ? new int[] {0, 0} : new int[] {state, 1};
        }
        return a == 0 ? new int[] {state, state} : new int[] {state == 3 ? 0 : state + 1, 0};
    }

    private static int two(long row, int place) {
        int low = (row & (1L << (2 * place))) != 0 ? 1 : 0;
        int high = (row & (1L << (2 * place + 1))) != 0 ? 2 : 0;
        return low + high;
    }

    /** One tick on these states under these walls: the answer. */
    private int tick(int[] states, int[] walls, int sender, int hearer, int t) {
        if (sender != 9 && walls[sender / 3] != 2) {
            int k = sender / 3;
            states[k] = effect(things.get(k), 0, states[k], sender % 3)[0];
        }
        for (int k = 0; k < things.size(); k++) {
            if (walls[k] == 1 && (t + 1) % things.get(k).clean == 0) {
                states[k] = things.get(k).first;
            }
        }
        if (hearer == 9) {
            return 0;
        }
        int k = hearer / 3;
        int[] done = effect(things.get(k), 1, states[k], hearer % 3);
        states[k] = done[0];
        return walls[k] == 3 && done[1] > things.get(k).pad ? things.get(k).pad : done[1];
    }

    private int[] wallsNow() {
        int[] walls = new int[things.size()];
        for (int k = 0; k < walls.length; k++) {
            walls[k] = things.get(k).wall;
        }
        return walls;
    }

    private int[] firsts() {
        int[] states = new int[things.size()];
        for (int k = 0; k < states.length; k++) {
            states[k] = things.get(k).first;
        }
        return states;
    }

    int silent(int k) {
        return none(k) ? NONE : pair(k) == null ? 1 : 0;
    }

    int shown(int k) {
        return none(k) || pair(k) == null ? NONE : pair(k).length;
    }

    int show(int k, int t, int what) {
        int[][] pair = none(k) ? null : pair(k);
        return pair == null || t < 0 || t >= pair.length || what < 0 || what > 4 ? NONE : pair[t][what];
    }

    private int[] actsAt(int k) {
        return new int[] {3 * k, 3 * k + 1, 3 * k + 2, 9};
    }

    /**
     * From the back: has[l] tells from which pairs of states, at which tick, exactly l ticks can end with the first
     * unlike answers; then the ticks of the shortest length are chosen one by one, the least first.
     */
    private int[][] pair(int k) {
        int most = 65;
        boolean[][] has = new boolean[most + 1][4 * 4 * 12];
        for (int l = 1; l <= most; l++) {
            for (int t = 0; t < period(k); t++) {
                for (int ab = 0; ab < 16; ab++) {
                    has[l][12 * ab + t] = least(k, ab / 4, ab % 4, t, l, has) != null;
                }
            }
            int first = things.get(k).first;
            if (has[l][12 * (4 * first + first)]) {
                return follow(k, l, has);
            }
        }
        return null;
    }

    private int period(int k) {
        return things.get(k).wall == 1 ? things.get(k).clean : 1;
    }

    private int[][] follow(int k, int length, boolean[][] has) {
        int[][] pair = new int[length][];
        int a = things.get(k).first;
        int b = a;
        for (int t = 0; t < length; t++) {
            int[] step = least(k, a, b, t % period(k), length - t, has);
            pair[t] = step;
            a = step[5];
            b = step[6];
        }
        return pair;
    }

    /** The least tick with which l ticks from here can end with the first unlike answers; then the next states. */
    private int[] least(int k, int a, int b, int t, int l, boolean[][] has) {
        int[] walls = wallsNow();
        for (int x : actsAt(k)) {
            for (int y : actsAt(k)) {
                for (int h : actsAt(k)) {
                    int[] inA = firsts();
                    int[] inB = firsts();
                    inA[k] = a;
                    inB[k] = b;
                    int answerA = tick(inA, walls, x, h, t);
                    int answerB = tick(inB, walls, y, h, t);
                    boolean unlike = answerA != answerB;
                    int later = 12 * (4 * inA[k] + inB[k]) + (t + 1) % period(k);
                    if (l == 1 ? unlike : !unlike && has[l - 1][later]) {
                        return new int[] {x, y, h, answerA, answerB, inA[k], inB[k]};
                    }
                }
            }
        }
        return null;
    }

    private int[] acts() {
        int[] acts = new int[3 * things.size() + 1];
        for (int i = 0; i < acts.length; i++) {
            acts[i] = i < acts.length - 1 ? i : 9;
        }
        return acts;
    }

    /** All rows of the sender's acts, the lesser first. */
    private List<Row> allRows(int n) {
        List<Row> rows = new ArrayList<>();
        rows.add(new Row(new int[0], firsts()));
        for (int t = 0; t < n; t++) {
            List<Row> longer = new ArrayList<>();
            for (Row row : rows) {
                for (int act : acts()) {
                    int[] acts = java.util.Arrays.copyOf(row.acts, t + 1);
                    acts[t] = act;
                    longer.add(new Row(acts, firsts()));
                }
            }
            rows = longer;
        }
        return rows;
    }

    /** The rows that are answered 0, 1, 2, 3 when the hearer does this in tick t. */
    private List<List<Row>> split(List<Row> rows, int[] walls, int hearer, int t) {
        List<List<Row>> parts = new ArrayList<>();
        for (int r = 0; r < 4; r++) {
            parts.add(new ArrayList<>());
        }
        for (Row row : rows) {
            int[] states = row.states.clone();
            int answer = tick(states, walls, row.acts[t], hearer, t);
            parts.get(answer).add(new Row(row.acts, states));
        }
        return parts;
    }

    private int most(List<Row> rows, int[] walls, int t, int n) {
        if (t == n) {
            return 1;
        }
        int most = 0;
        for (int hearer : acts()) {
            most = Math.max(most, mostBy(rows, walls, hearer, t, n));
        }
        return most;
    }

    private int mostBy(List<Row> rows, int[] walls, int hearer, int t, int n) {
        int sum = 0;
        for (List<Row> part : split(rows, walls, hearer, t)) {
            sum += part.isEmpty() ? 0 : most(part, walls, t + 1, n);
        }
        return sum;
    }

    int letters(int n) {
        return n < 0 || n > 3 ? NONE : most(allRows(n), wallsNow(), 0, n);
    }

    int letter(int n, int i, int t, int what) {
        List<int[][]> all = n < 0 || n > 3 ? null : whisper(n);
        if (all == null || i < 0 || i >= all.size() || t < 0 || t >= n || what < 0 || what > 2) {
            return NONE;
        }
        return all.get(i)[t][what];
    }

    /** Each letter: for each tick the hearer's act, the answer, the sender's act. */
    List<int[][]> whisper(int n) {
        List<int[][]> all = new ArrayList<>();
        tell(allRows(n), wallsNow(), 0, n, new int[n][3], all);
        return all;
    }

    private void tell(List<Row> rows, int[] walls, int t, int n, int[][] path, List<int[][]> all) {
        if (t == n) {
            int[][] letter = new int[n][];
            for (int u = 0; u < n; u++) {
                letter[u] = new int[] {path[u][0], path[u][1], rows.get(0).acts[u]};
            }
            all.add(letter);
            return;
        }
        int most = most(rows, walls, t, n);
        int hearer = 0;
        while (hearer < acts().length - 1 && mostBy(rows, walls, hearer, t, n) < most) {
            hearer++;
        }
        path[t][0] = acts()[hearer];
        List<List<Row>> parts = split(rows, walls, path[t][0], t);
        for (int r = 0; r < 4; r++) {
            path[t][1] = r;
            if (!parts.get(r).isEmpty()) {
                tell(parts.get(r), walls, t + 1, n, path, all);
            }
        }
    }

    void begin() {
        for (Thing x : things) {
            x.state = x.first;
        }
        ticks = 0;
    }

    int run(int sender, int hearer) {
        if (!isAct(sender) || !isAct(hearer)) {
            return NONE;
        }
        int[] states = new int[things.size()];
        for (int k = 0; k < states.length; k++) {
            states[k] = things.get(k).state;
        }
        int answer = tick(states, wallsNow(), sender, hearer, ticks);
        for (int k = 0; k < states.length; k++) {
            things.get(k).state = states[k];
        }
        ticks++;
        return answer;
    }

    private boolean isAct(int act) {
        for (int one : acts()) {
            if (one == act) {
                return true;
            }
        }
        return false;
    }

    int state(int k) {
        return none(k) ? NONE : things.get(k).state;
    }

    int ticks() {
        return ticks;
    }

    int walls(int m, int n, int what) {
        if (m < 1 || m > 4096 || n < 0 || n > 2 || what < 0 || what > 1) {
            return NONE;
        }
        int ways = 1;
        for (int k = 0; k < things.size(); k++) {
            ways *= 4;
        }
        int[] best = null;
        for (int number = 0; number < ways; number++) {
            int[] walls = digits(number);
            int sum = 0;
            for (int k = 0; k < walls.length; k++) {
                sum += things.get(k).price[walls[k]];
            }
            if (most(allRows(n), walls, 0, n) <= m && (best == null || sum < best[0])) {
                best = new int[] {sum, number};
            }
        }
        return best == null ? NONE : best[what];
    }

    private int[] digits(int number) {
        int[] walls = new int[things.size()];
        int rest = number;
        for (int k = 0; k < walls.length; k++) {
            walls[k] = rest % 4;
            rest /= 4;
        }
        return walls;
    }

    boolean give(int walls) {
        if (walls < 0 || walls > 63) {
            return false;
        }
        int[] digits = digits(walls);
        for (int k = 0; k < digits.length; k++) {
            things.get(k).wall = digits[k];
        }
        return true;
    }
}
