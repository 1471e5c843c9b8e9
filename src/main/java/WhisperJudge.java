import java.util.Arrays;

/**
 * A judge of whispers: what two parties share, whether the one can see in its answers what the other
 * does, how much can be told so, and the cheapest walls against it. README.md says how to use it.
 */
public final class WhisperJudge {
    public static final int NONE = -1;

    private static final int MOST_THINGS = 3;
    private static final int MOST_TICKS = 3;
    private static final int MOST_LETTERS = 64;
    private static final int STATES = 4;
    private static final int ACTS = 3;
    /** Stands beside acts 0 .. 2 of one thing: nothing is done at it. */
    private static final int NO_ACT = 3;
    private static final int REST = 9;

    private static final int SENDER = 0;
    private static final int HEARER = 1;

    private static final int LINE = 0;
    private static final int QUEUE = 1;
    private static final int LOCK = 2;
    private static final int CLOCK = 3;
    private static final int TABLE = 4;

    private static final int OPEN = 0;
    private static final int CLEANED = 1;
    private static final int PARTED = 2;
    private static final int PADDED = 3;
    private static final int WALLS = 4;

    private final Thing[] things = new Thing[MOST_THINGS];
    private final Pair[] pairs = new Pair[MOST_THINGS];
    private final Whisper[] whispers = new Whisper[MOST_TICKS + 1];
    private final Room room = new Room();
    private int count;
    private int ticks;
    /** Grows with all that a judgement hangs on, so that one that stands is not found anew. */
    private int changes;

    public WhisperJudge() {
        for (int k = 0; k < MOST_THINGS; k++) {
            things[k] = new Thing();
            pairs[k] = new Pair();
        }
        for (int n = 0; n <= MOST_TICKS; n++) {
            whispers[n] = new Whisper(n);
        }
    }

    public void clear() {
        count = 0;
        changes++;
    }

    public int thing(int kind, int first) {
        return kind < LINE || kind > CLOCK ? NONE : come(kind, first, 0L, 0L);
    }

    public int table(int first, long next, long answers) {
        return come(TABLE, first, next, answers);
    }

    public boolean wall(int k, int wall, int n) {
        if (!isThing(k) || !canHave(wall, n)) {
            return false;
        }
        things[k].wall = wall;
        things[k].keep(wall, n);
        changes++;
        return true;
    }

    public boolean set(int k, int wall, int n) {
        if (!isThing(k) || wall != CLEANED && wall != PADDED || !canHave(wall, n)) {
            return false;
        }
        things[k].keep(wall, n);
        changes++;
        return true;
    }

    public boolean price(int k, int wall, int v) {
        if (!isThing(k) || wall < CLEANED || wall > PADDED || v < 0 || v > 99) {
            return false;
        }
        things[k].prices[wall] = v;
        return true;
    }

    public int look(int what) {
        switch (what) {
            case 0:
                return count;
            case 1:
                return countSilent();
            case 2:
                return sumOf(wallsNow());
            case 3:
                return wallsNow();
            default:
                return NONE;
        }
    }

    public int of(int k, int what) {
        if (!isThing(k)) {
            return NONE;
        }
        switch (what) {
            case 0:
                return things[k].kind;
            case 1:
                return things[k].first;
            case 2:
                return things[k].wall;
            case 3:
                return things[k].cleaned;
            case 4:
                return things[k].padded;
            default:
                return NONE;
        }
    }

    public int does(int k, int party, int state, int a, int what) {
        if (!isThing(k) || party < SENDER || party > HEARER || a < 0 || a >= ACTS) {
            return NONE;
        }
        if (!canBe(things[k].kind, state) || what < 0 || what > 1) {
            return NONE;
        }
        return what == 0 ? things[k].next(party, state, a) : things[k].answer(party, state, a);
    }

    public int silent(int k) {
        if (!isThing(k)) {
            return NONE;
        }
        return pairOf(k).length == 0 ? 1 : 0;
    }

    public int shown(int k) {
        if (!isThing(k) || pairOf(k).length == 0) {
            return NONE;
        }
        return pairOf(k).length;
    }

    public int show(int k, int t, int what) {
        if (!isThing(k) || t < 0 || t >= pairOf(k).length || what < 0 || what >= Pair.WIDTH) {
            return NONE;
        }
        return pairOf(k).rows[Pair.WIDTH * t + what];
    }

    public int letters(int n) {
        return n < 0 || n > MOST_TICKS ? NONE : whisperOf(n).many;
    }

    public int letter(int n, int i, int t, int what) {
        if (n < 0 || n > MOST_TICKS || i < 0 || i >= whisperOf(n).many) {
            return NONE;
        }
        if (t < 0 || t >= n || what < 0 || what >= Whisper.WIDTH) {
            return NONE;
        }
        return whisperOf(n).rows[Whisper.place(i, t) + what];
    }

    public void begin() {
        for (int k = 0; k < count; k++) {
            things[k].now = things[k].first;
        }
        ticks = 0;
    }

    public int run(int sender, int hearer) {
        if (!isAct(sender) || !isAct(hearer)) {
            return NONE;
        }
        room.build(things, count, wallsNow());
        for (int k = 0; k < count; k++) {
            int a = sender / ACTS == k ? sender % ACTS : NO_ACT;
            things[k].now = room.met(k, things[k].now, a, ticks);
        }
        ticks++;
        if (hearer == REST) {
            return 0;
        }
        Thing x = things[hearer / ACTS];
        int answer = room.answer(hearer / ACTS, x.now, hearer % ACTS);
        x.now = room.left(hearer / ACTS, x.now, hearer % ACTS);
        return answer;
    }

    public int state(int k) {
        return isThing(k) ? things[k].now : NONE;
    }

    public int ticks() {
        return ticks;
    }

    public int walls(int m, int n, int what) {
        if (m < 1 || m > 4096 || n < 0 || n > 2 || what < 0 || what > 1) {
            return NONE;
        }
        int best = NONE;
        for (int number = 0; number < 1 << 2 * count; number++) {
            boolean cheaper = best == NONE || sumOf(number) < sumOf(best);
            if (cheaper && lettersBehind(number, n) <= m) {
                best = number;
            }
        }
        return what == 0 && best != NONE ? sumOf(best) : best;
    }

    public boolean give(int walls) {
        if (walls < 0 || walls >= 1 << 2 * MOST_THINGS) {
            return false;
        }
        for (int k = 0; k < count; k++) {
            things[k].wall = wallIn(walls, k);
        }
        changes++;
        return true;
    }

    private boolean isThing(int k) {
        return k >= 0 && k < count;
    }

    private boolean isAct(int act) {
        return act == REST || act >= 0 && act < ACTS * count;
    }

    private static boolean canBe(int kind, int state) {
        return state >= 0 && state < (kind == LINE || kind == LOCK ? STATES - 1 : STATES);
    }

    private static boolean canHave(int wall, int n) {
        switch (wall) {
            case OPEN:
            case PARTED:
                return true;
            case CLEANED:
                return n >= 1 && n <= 4;
            case PADDED:
                return n >= 0 && n <= 3;
            default:
                return false;
        }
    }

    private int come(int kind, int first, long nexts, long answers) {
        if (count >= MOST_THINGS || !canBe(kind, first)) {
            return NONE;
        }
        things[count].come(kind, first, nexts, answers);
        count++;
        changes++;
        return count - 1;
    }

    private static int wallIn(int walls, int k) {
        return walls >> 2 * k & 3;
    }

    private int wallsNow() {
        int number = 0;
        for (int k = 0; k < count; k++) {
            number |= things[k].wall << 2 * k;
        }
        return number;
    }

    private int sumOf(int walls) {
        int sum = 0;
        for (int k = 0; k < count; k++) {
            sum += things[k].prices[wallIn(walls, k)];
        }
        return sum;
    }

    private int countSilent() {
        int many = 0;
        for (int k = 0; k < count; k++) {
            many += pairOf(k).length == 0 ? 1 : 0;
        }
        return many;
    }

    private Pair pairOf(int k) {
        Pair pair = pairs[k];
        if (pair.asOf != changes) {
            room.build(things, count, wallsNow());
            pair.find(room, k);
            pair.asOf = changes;
        }
        return pair;
    }

    private Whisper whisperOf(int n) {
        Whisper whisper = whispers[n];
        if (whisper.asOf != changes) {
            room.build(things, count, wallsNow());
            whisper.many = 0;
            Whisper.grow(whisper, room, room.start, 0);
            whisper.addSenders(room);
            whisper.asOf = changes;
        }
        return whisper;
    }

    private int lettersBehind(int walls, int n) {
        room.build(things, count, walls);
        return most(room, room.start, 0, n);
    }

    /** How many rows of answers ticks t .. n - 1 can have at most, when the room may be in any state of a set. */
    private static int most(Room room, long set, int t, int n) {
        if (t >= n) {
            return 1;
        }
        long sent = room.sent(set, 0, room.acts, t);
        int best = 0;
        for (int act = 0; act <= room.acts; act++) {
            best = Math.max(best, mostBy(room, sent, act, t, n));
        }
        return best;
    }

    /** The same, when the sender's act of tick t is done and the hearer now does this one. */
    private static int mostBy(Room room, long sent, int act, int t, int n) {
        int answers = room.answers(sent, act);
        if (t + 1 >= n) {
            return Integer.bitCount(answers);
        }
        int sum = 0;
        for (int r = 0; r < STATES; r++) {
            if ((answers >> r & 1) != 0) {
                sum += most(room, room.heard(sent, act, r), t + 1, n);
            }
        }
        return sum;
    }

    /** One thing that the parties share, and what acts 0 .. 2 at it do, walls aside. */
    private static final class Thing {
        final int[] prices = new int[WALLS];
        int kind;
        int first;
        int wall;
        int cleaned;
        int padded;
        int now;
        private long nexts;
        private long answers;

        void come(int itsKind, int itsFirst, long itsNexts, long itsAnswers) {
            kind = itsKind;
            first = itsFirst;
            now = itsFirst;
            nexts = itsNexts;
            answers = itsAnswers;
            wall = OPEN;
            cleaned = 1;
            padded = 0;
            Arrays.fill(prices, 1);
            prices[OPEN] = 0;
        }

        void keep(int itsWall, int n) {
            if (itsWall == CLEANED) {
                cleaned = n;
            } else if (itsWall == PADDED) {
                padded = n;
            }
        }

        int next(int party, int s, int a) {
            return kind == TABLE ? told(nexts, party, s, a) : nextByKind(party + 1, s, a);
        }

        int answer(int party, int s, int a) {
            return kind == TABLE ? told(answers, party, s, a) : answerByKind(party + 1, s, a);
        }

        private static int told(long row, int party, int s, int a) {
            return (int) (row >>> 2 * (12 * party + 3 * s + a)) & 3;
        }

        /** Own is the state in which a line or a lock is the party's. */
        private int nextByKind(int own, int s, int a) {
            if (a > 1) {
                return s;
            }
            switch (kind) {
                case LINE:
                    return a == 0 ? own : 0;
                case QUEUE:
                    return a == 0 ? Math.min(s + 1, 3) : Math.max(s - 1, 0);
                case LOCK:
                    if (a == 0) {
                        return s == 0 ? own : s;
                    }
                    return s == own ? 0 : s;
                default:
                    return a == 0 ? s : s + 1 & 3;
            }
        }

        private int answerByKind(int own, int s, int a) {
            if (a > 1) {
                return 0;
            }
            switch (kind) {
                case LINE:
                    return a == 0 && s != own ? 1 : 0;
                case QUEUE:
                    return s == (a == 0 ? 3 : 0) ? 1 : 0;
                case LOCK:
                    return s == own || a == 0 && s == 0 ? 0 : 1;
                default:
                    return a == 0 ? s : 0;
            }
        }
    }

    /**
     * All things behind one number of walls. A set of their states is a long: bit s0 + 4 s1 + 16 s2 is there if
     * things 0, 1, 2 may be in s0, s1, s2. Of acts 3 k + a all that are at no thing rest, so any from acts on.
     */
    private static final class Room {
        private final int[] sentTo = new int[MOST_THINGS * ACTS * STATES];
        private final int[] heardTo = new int[MOST_THINGS * ACTS * STATES];
        private final int[] heardAs = new int[MOST_THINGS * ACTS * STATES];
        private final int[] cleanEach = new int[MOST_THINGS];
        private final int[] firsts = new int[MOST_THINGS];
        int acts;
        long start;

        void build(Thing[] things, int count, int walls) {
            acts = ACTS * count;
            start = 1L;
            for (int k = 0; k < count; k++) {
                start <<= things[k].first << 2 * k;
                firsts[k] = things[k].first;
                cleanEach[k] = wallIn(walls, k) == CLEANED ? things[k].cleaned : 0;
                for (int a = 0; a < ACTS; a++) {
                    buildAct(things[k], wallIn(walls, k), k, a);
                }
            }
        }

        private void buildAct(Thing x, int wall, int k, int a) {
            for (int s = 0; s < STATES; s++) {
                int answer = x.answer(HEARER, s, a);
                sentTo[place(k, a) + s] = wall == PARTED ? s : x.next(SENDER, s, a);
                heardTo[place(k, a) + s] = x.next(HEARER, s, a);
                heardAs[place(k, a) + s] = wall == PADDED ? Math.min(answer, x.padded) : answer;
            }
        }

        private static int place(int k, int a) {
            return STATES * (ACTS * k + a);
        }

        /** After how many ticks thing k is cleaned or not as from tick 0 on. */
        int period(int k) {
            return cleanEach[k] > 0 ? cleanEach[k] : 1;
        }

        private boolean isCleaned(int k, int t) {
            return cleanEach[k] > 0 && (t + 1) % cleanEach[k] == 0;
        }

        /** The state of thing k that the hearer meets in tick t, when s was before it and the sender does a. */
        int met(int k, int s, int a, int t) {
            if (isCleaned(k, t)) {
                return firsts[k];
            }
            return a >= ACTS ? s : sentTo[place(k, a) + s];
        }

        int answer(int k, int s, int a) {
            return a >= ACTS ? 0 : heardAs[place(k, a) + s];
        }

        /** The state of thing k that the hearer's a leaves of s. */
        int left(int k, int s, int a) {
            return a >= ACTS ? s : heardTo[place(k, a) + s];
        }

        /** Where the room may be when the hearer is to act in tick t and the sender did one of acts least .. last. */
        long sent(long set, int least, int last, int t) {
            long out = 0L;
            for (int act = least; act <= last; act++) {
                if (act >= acts) {
                    out |= set;
                    continue;
                }
                for (int s = 0; s < STATES; s++) {
                    out |= moved(set, act / ACTS, s, sentTo[STATES * act + s]);
                }
            }
            for (int k = 0; k * ACTS < acts; k++) {
                if (!isCleaned(k, t)) {
                    continue;
                }
                long before = out;
                out = 0L;
                for (int s = 0; s < STATES; s++) {
                    out |= moved(before, k, s, firsts[k]);
                }
            }
            return out;
        }

        /** Which answers (bit r for r) the hearer's act may have. */
        int answers(long set, int act) {
            if (act >= acts) {
                return 1;
            }
            int out = 0;
            for (int s = 0; s < STATES; s++) {
                if (moved(set, act / ACTS, s, 0) != 0L) {
                    out |= 1 << heardAs[STATES * act + s];
                }
            }
            return out;
        }

        /** Where the room may be when the hearer's act had this answer; no state at all if it can't have it. */
        long heard(long set, int act, int answer) {
            if (act >= acts) {
                return answer == 0 ? set : 0L;
            }
            long out = 0L;
            for (int s = 0; s < STATES; s++) {
                if (heardAs[STATES * act + s] == answer) {
                    out |= moved(set, act / ACTS, s, heardTo[STATES * act + s]);
                }
            }
            return out;
        }

        /** Those states of a set in which thing k is in state s, with to in its place. */
        private static long moved(long set, int k, int s, int to) {
            long inZero = k == 0 ? 0x1111111111111111L : k == 1 ? 0x000F000F000F000FL : 0xFFFFL;
            return (set >>> (s << 2 * k) & inZero) << (to << 2 * k);
        }
    }

    /**
     * The shortest pair of runs that shows a thing. A node is the thing's state in A, that in B, and the tick
     * as far as cleaning tells ticks apart; an edge is what the sender does in A, in B, and the hearer, and above
     * these two bits for each answer. Nodes come into the queue in the order of the least rows that lead to them,
     * so the first edge that tells A from B ends the due pair.
     */
    private static final class Pair {
        static final int WIDTH = 5;
        private static final int NODES = 64;
        private static final int EDGES = 64;

        final int[] rows = new int[WIDTH * NODES];
        private final int[] queue = new int[NODES];
        private final int[] before = new int[NODES];
        private final int[] edge = new int[NODES];
        private final int[] depth = new int[NODES];
        private int queued;
        /** Ticks of the pair; 0 if there is none. */
        int length;
        int asOf = NONE;

        void find(Room room, int k) {
            length = 0;
            queued = 0;
            Arrays.fill(depth, NONE);
            reach(node(room.firsts[k], room.firsts[k], 0), NONE, 0);
            for (int head = 0; head < queued && length == 0; head++) {
                goOn(room, k, queue[head]);
            }
        }

        private static int node(int inA, int inB, int t) {
            return (inA << 4 | inB << 2 | t) & NODES - 1;
        }

        private void reach(int node, int from, int by) {
            if (depth[node] != NONE || queued >= NODES) {
                return;
            }
            depth[node] = from == NONE ? 0 : depth[from] + 1;
            before[node] = from;
            edge[node] = by;
            queue[queued] = node;
            queued++;
        }

        private void goOn(Room room, int k, int node) {
            int t = node & 3;
            for (int e = 0; e < EDGES && length == 0; e++) {
                int a = e & 3;
                int inA = room.met(k, node >> 4, e >> 4, t);
                int inB = room.met(k, node >> 2 & 3, e >> 2 & 3, t);
                int answerA = room.answer(k, inA, a);
                int answerB = room.answer(k, inB, a);
                int by = e | answerA << 6 | answerB << 8;
                if (answerA != answerB) {
                    write(k, node, by);
                } else {
                    reach(node(room.left(k, inA, a), room.left(k, inB, a), (t + 1) % room.period(k)), node, by);
                }
            }
        }

        private void write(int k, int last, int by) {
            length = depth[last] + 1;
            int node = last;
            int e = by;
            for (int t = length - 1; t >= 0 && node != NONE; t--) {
                rows[WIDTH * t] = number(k, e >> 4 & 3);
                rows[WIDTH * t + 1] = number(k, e >> 2 & 3);
                rows[WIDTH * t + 2] = number(k, e & 3);
                rows[WIDTH * t + 3] = e >> 6 & 3;
                rows[WIDTH * t + 4] = e >> 8 & 3;
                e = edge[node];
                node = before[node];
            }
        }

        private static int number(int k, int a) {
            return a < ACTS ? ACTS * k + a : REST;
        }
    }

    /** The whisper of n ticks: its letters in their order, and how each is sent. */
    private static final class Whisper {
        static final int WIDTH = 3;

        final int[] rows = new int[MOST_LETTERS * MOST_TICKS * WIDTH];
        private final int[] acts = new int[MOST_TICKS];
        private final int[] answers = new int[MOST_TICKS];
        private final int n;
        int many;
        int asOf = NONE;

        Whisper(int itsTicks) {
            n = itsTicks;
        }

        static int place(int i, int t) {
            return WIDTH * (MOST_TICKS * i + t);
        }

        /** Goes through all rows of answers, the lesser first; acts and answers hold what was before tick t. */
        private static void grow(Whisper w, Room room, long set, int t) {
            if (t >= w.n) {
                w.addLetter();
                return;
            }
            long sent = room.sent(set, 0, room.acts, t);
            int best = 0;
            int most = 0;
            for (int act = 0; act <= room.acts; act++) {
                int had = mostBy(room, sent, act, t, w.n);
                if (had > most) {
                    best = act;
                    most = had;
                }
            }
            int told = room.answers(sent, best);
            for (int r = 0; r < STATES; r++) {
                if ((told >> r & 1) != 0) {
                    w.acts[t] = best < room.acts ? best : REST;
                    w.answers[t] = r;
                    grow(w, room, room.heard(sent, best, r), t + 1);
                }
            }
        }

        private void addLetter() {
            if (many >= MOST_LETTERS) {
                return;
            }
            for (int t = 0; t < n; t++) {
                rows[place(many, t)] = acts[t];
                rows[place(many, t) + 1] = answers[t];
            }
            many++;
        }

        /** The first row of the sender's acts is had by taking, tick by tick, the least that can still end well. */
        void addSenders(Room room) {
            for (int i = 0; i < many; i++) {
                long set = room.start;
                for (int t = 0; t < n; t++) {
                    int act = 0;
                    while (act < room.acts && !leads(room, step(room, set, act, i, t), i, t + 1)) {
                        act++;
                    }
                    rows[place(i, t) + 2] = act < room.acts ? act : REST;
                    set = step(room, set, act, i, t);
                }
            }
        }

        private long step(Room room, long set, int act, int i, int t) {
            return room.heard(room.sent(set, act, act, t), rows[place(i, t)], rows[place(i, t) + 1]);
        }

        /** Whether what letter i answers from tick t on can be had from one of these states. */
        private boolean leads(Room room, long from, int i, int t) {
            long set = from;
            for (int u = t; u < n && set != 0L; u++) {
                set = room.heard(room.sent(set, 0, room.acts, u), rows[place(i, u)], rows[place(i, u) + 1]);
            }
            return set != 0L;
        }
    }
}
