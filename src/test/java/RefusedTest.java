import java.util.ArrayList;
import java.util.List;

/**
 * A call that is refused does nothing: behind it a judge answers all that can be asked as one does that was never
 * asked so. Each refused call is the first value beside those that are allowed, or one far away, of one argument alone.
 */
public final class RefusedTest {
    private static final int NONE = WhisperJudge.NONE;
    private static final int[] FAR = {Integer.MIN_VALUE, -64, 4096, Integer.MAX_VALUE};
    private static final int CLEANED = 1;
    private static final int PARTED = 2;
    private static final int PADDED = 3;

    private interface Call {
        long on(WhisperJudge x);
    }

    private record Refused(String name, long due, Call call) {
    }

    private static final Check check = new Check("RefusedTest");

    public static void main(String[] args) {
        for (int many = 0; many <= 3; many++) {
            List<Refused> all = new ArrayList<>();
            things(all, many);
            walls(all, many);
            asked(all, many);
            runs(all, many);
            List<Long> untouched = said(made(many));
            for (Refused one : all) {
                doesNothing(one, many, untouched);
            }
            inARow(all, many, untouched);
        }
        check.end();
    }

    private static void doesNothing(Refused one, int many, List<Long> untouched) {
        WhisperJudge x = made(many);
        // Judged before and behind it, so that what stands from before may not be answered wrongly either.
        x.letters(2);
        x.look(1);
        check.due(many + " things, " + one.name, one.call.on(x), one.due);
        same(many + " things, behind " + one.name, said(x), untouched);
        WhisperJudge y = made(many);
        check.due(many + " things, first asked " + one.name, one.call.on(y), one.due);
        same(many + " things, behind first asked " + one.name, said(y), untouched);
    }

    /** As many refused calls as go with one judge. */
    private static void inARow(List<Refused> all, int many, List<Long> untouched) {
        int most = 512 - 25 - 240;
        for (int from = 0; from < all.size(); from += most) {
            WhisperJudge x = made(many);
            for (int i = from; i < Math.min(from + most, all.size()); i++) {
                check.due(many + " things, in a row, " + all.get(i).name, all.get(i).call.on(x), all.get(i).due);
            }
            same(many + " things, behind a row from " + from, said(x), untouched);
        }
    }

    private static void same(String name, List<Long> got, List<Long> want) {
        check.due(name + ", how much is said", got.size(), want.size());
        for (int i = 0; i < Math.min(got.size(), want.size()); i++) {
            check.due(name + ", said " + i, got.get(i), want.get(i));
        }
    }

    /** In the middle of a run, with walls, numbers and prices unlike those at first: some 20 calls. */
    private static WhisperJudge made(int many) {
        WhisperJudge x = new WhisperJudge();
        x.run(9, 9);
        if (many > 0) {
            x.thing(3, 2);
            x.wall(0, PADDED, 2);
            x.set(0, CLEANED, 3);
        }
        if (many > 1) {
            x.thing(1, 3);
            x.wall(1, CLEANED, 2);
            x.set(1, PADDED, 1);
        }
        if (many > 2) {
            x.table(1, 0x5A1B7C93E8D4L, 0x93C6A57B2E1DL);
        }
        for (int k = 0; k < many; k++) {
            for (int wall = 1; wall <= 3; wall++) {
                x.price(k, wall, 7 + 10 * k + wall);
            }
        }
        if (many > 0) {
            x.run(1, 3 * many - 1);
            x.run(3 * many - 3, 1);
        }
        return x;
    }

    /** All that can be asked, then how the run goes on: some 220 calls. */
    private static List<Long> said(WhisperJudge x) {
        List<Long> all = new ArrayList<>();
        add(all, x.ticks(), x.look(0), x.look(1), x.look(2), x.look(3));
        for (int k = 0; k < 3; k++) {
            add(all, x.state(k), x.silent(k), x.shown(k));
            for (int what = 0; what < 5; what++) {
                add(all, x.of(k, what), x.show(k, 0, what), x.show(k, 1, what));
            }
        }
        for (int place = 0; place < 24; place++) {
            add(all, x.does(2, place / 12, place / 3 % 4, place % 3, 0), x.does(2, place / 12, place / 3 % 4, place % 3, 1));
        }
        for (int n = 0; n <= 3; n++) {
            add(all, x.letters(n));
        }
        for (int i = 0; i < 5; i++) {
            for (int j = 0; j < 6; j++) {
                add(all, x.letter(2, i, j / 3, j % 3));
            }
        }
        add(all, x.walls(1, 1, 0), x.walls(2, 2, 0), x.walls(2, 2, 1), x.walls(4, 2, 1));
        goesOn(all, x);
        pricesOf(all, x);
        x.begin();
        add(all, x.ticks(), x.state(0), x.state(1), x.state(2), x.thing(2, 2), x.look(0));
        return all;
    }

    private static void goesOn(List<Long> all, WhisperJudge x) {
        int[][] ticks = {{9, 0}, {0, 3}, {3, 6}, {6, 8}, {7, 7}, {1, 1}, {4, 0}, {8, 4}, {2, 2}, {5, 5}};
        for (int[] tick : ticks) {
            add(all, x.run(tick[0], tick[1]), x.state(0), x.state(1), x.state(2), x.ticks());
        }
    }

    private static void pricesOf(List<Long> all, WhisperJudge x) {
        for (int k = 0; k < 3; k++) {
            for (int wall = 1; wall <= 3; wall++) {
                x.give(wall << 2 * k);
                add(all, x.look(2));
            }
        }
    }

    private static void add(List<Long> all, long... said) {
        for (long one : said) {
            all.add(one);
        }
    }

    /** Values beside first .. last, and far away. */
    private static List<Integer> beside(int first, int last) {
        List<Integer> all = new ArrayList<>(List.of(first - 1, last + 1));
        for (int far : FAR) {
            if (far < first || far > last) {
                all.add(far);
            }
        }
        return all;
    }

    private static void no(List<Refused> all, String name, boolean of, Call call) {
        all.add(new Refused(name, of ? NONE : 0L, call));
    }

    private static long truth(boolean b) {
        return b ? 1L : 0L;
    }

    private static void things(List<Refused> all, int many) {
        for (int kind = 0; kind <= 4; kind++) {
            int one = kind;
            for (int first : beside(0, kind == 0 || kind == 2 ? 2 : 3)) {
                no(all, "KIND " + one + " first " + first, true, x -> one == 4 ? x.table(first, -1L, -1L) : x.thing(one, first));
            }
            if (many == 3) {
                no(all, "fourth of KIND " + one, true, x -> one == 4 ? x.table(1, -1L, -1L) : x.thing(one, 1));
            }
        }
        for (int kind : beside(0, 3)) {
            no(all, "thing(" + kind + ", 0)", true, x -> x.thing(kind, 0));
        }
        for (int number : beside(0, 63)) {
            no(all, "give(" + number + ")", false, x -> truth(x.give(number)));
        }
    }

    private static void walls(List<Refused> all, int many) {
        for (int k : beside(0, many - 1)) {
            for (int wall = 0; wall <= 3; wall++) {
                int one = wall;
                no(all, "wall(" + k + ", " + one + ", 1)", false, x -> truth(x.wall(k, one, 1)));
                no(all, "set(" + k + ", " + one + ", 1)", false, x -> truth(x.set(k, one, 1)));
                no(all, "price(" + k + ", " + one + ", 0)", false, x -> truth(x.price(k, one, 0)));
            }
        }
        for (int k = 0; k < many; k++) {
            wallsAt(all, k);
        }
    }

    private static void wallsAt(List<Refused> all, int k) {
        for (int wall : beside(0, 3)) {
            no(all, "wall(" + k + ", " + wall + ", 1)", false, x -> truth(x.wall(k, wall, 1)));
        }
        for (int wall : new int[] {-1, 0, PARTED, 4}) {
            for (int n = -1; n <= 5; n++) {
                int some = n;
                no(all, "set(" + k + ", " + wall + ", " + n + ")", false, x -> truth(x.set(k, wall, some)));
            }
        }
        for (int n : beside(1, 4)) {
            no(all, "CLEANED by " + n + " at " + k, false, x -> truth(x.wall(k, CLEANED, n)));
            no(all, "set CLEANED by " + n + " at " + k, false, x -> truth(x.set(k, CLEANED, n)));
        }
        for (int n : beside(0, 3)) {
            no(all, "PADDED by " + n + " at " + k, false, x -> truth(x.wall(k, PADDED, n)));
            no(all, "set PADDED by " + n + " at " + k, false, x -> truth(x.set(k, PADDED, n)));
        }
        for (int wall : beside(1, 3)) {
            no(all, "price(" + k + ", " + wall + ", 50)", false, x -> truth(x.price(k, wall, 50)));
        }
        for (int v : beside(0, 99)) {
            for (int wall = 1; wall <= 3; wall++) {
                int one = wall;
                no(all, "price(" + k + ", " + one + ", " + v + ")", false, x -> truth(x.price(k, one, v)));
            }
        }
    }

    private static void asked(List<Refused> all, int many) {
        for (int what : beside(0, 3)) {
            no(all, "look(" + what + ")", true, x -> x.look(what));
        }
        for (int k : beside(0, many - 1)) {
            no(all, "of(" + k + ", 0)", true, x -> x.of(k, 0));
            no(all, "does(" + k + ", 0, 0, 0, 0)", true, x -> x.does(k, 0, 0, 0, 0));
            no(all, "silent(" + k + ")", true, x -> x.silent(k));
            no(all, "shown(" + k + ")", true, x -> x.shown(k));
            no(all, "show(" + k + ", 0, 0)", true, x -> x.show(k, 0, 0));
            no(all, "state(" + k + ")", true, x -> x.state(k));
        }
        for (int n : beside(0, 3)) {
            no(all, "letters(" + n + ")", true, x -> x.letters(n));
            no(all, "letter(" + n + ", 0, 0, 0)", true, x -> x.letter(n, 0, 0, 0));
        }
        for (int t : beside(0, 1)) {
            no(all, "letter(2, 0, " + t + ", 0)", true, x -> x.letter(2, 0, t, 0));
        }
        for (int what : beside(0, 2)) {
            no(all, "letter(2, 0, 0, " + what + ")", true, x -> x.letter(2, 0, 0, what));
        }
        for (int i : beside(0, 63)) {
            no(all, "letter(2, " + i + ", 0, 0)", true, x -> x.letter(2, i, 0, 0));
        }
        no(all, "letter(0, 0, 0, 0)", true, x -> x.letter(0, 0, 0, 0));
        for (int k = 0; k < many; k++) {
            askedOf(all, k);
        }
        askedForWalls(all);
    }

    private static void askedOf(List<Refused> all, int k) {
        for (int what : beside(0, 4)) {
            no(all, "of(" + k + ", " + what + ")", true, x -> x.of(k, what));
            no(all, "show(" + k + ", 0, " + what + ")", true, x -> x.show(k, 0, what));
        }
        no(all, "show(" + k + ", -1, 0)", true, x -> x.show(k, -1, 0));
        no(all, "show(" + k + ", shown, 0)", true, x -> x.show(k, Math.max(x.shown(k), 0), 0));
        for (int party : beside(0, 1)) {
            no(all, "does(" + k + ", " + party + ", 0, 0, 0)", true, x -> x.does(k, party, 0, 0, 0));
        }
        for (int state : beside(0, 3)) {
            no(all, "does(" + k + ", 0, " + state + ", 0, 0)", true, x -> x.does(k, 0, state, 0, 0));
        }
        for (int a : beside(0, 2)) {
            no(all, "does(" + k + ", 1, 0, " + a + ", 0)", true, x -> x.does(k, 1, 0, a, 0));
        }
        for (int what : beside(0, 1)) {
            no(all, "does(" + k + ", 1, 0, 0, " + what + ")", true, x -> x.does(k, 1, 0, 0, what));
        }
    }

    private static void askedForWalls(List<Refused> all) {
        for (int m : beside(1, 4096)) {
            for (int what = 0; what <= 1; what++) {
                int one = what;
                no(all, "walls(" + m + ", 1, " + what + ")", true, x -> x.walls(m, 1, one));
            }
        }
        for (int n : beside(0, 2)) {
            for (int what = 0; what <= 1; what++) {
                int one = what;
                no(all, "walls(1, " + n + ", " + what + ")", true, x -> x.walls(1, n, one));
            }
        }
        for (int what : beside(0, 1)) {
            no(all, "walls(1, 1, " + what + ")", true, x -> x.walls(1, 1, what));
        }
    }

    private static void runs(List<Refused> all, int many) {
        List<Integer> acts = new ArrayList<>(beside(0, 9));
        for (int act = 3 * many; act < 9; act++) {
            acts.add(act);
        }
        for (int act : acts) {
            no(all, "run(" + act + ", 9)", true, x -> x.run(act, 9));
            no(all, "run(9, " + act + ")", true, x -> x.run(9, act));
            no(all, "run(" + act + ", " + act + ")", true, x -> x.run(act, act));
            if (many > 0) {
                no(all, "run(" + act + ", 1)", true, x -> x.run(act, 1));
                no(all, "run(1, " + act + ")", true, x -> x.run(1, act));
            }
        }
    }
}
