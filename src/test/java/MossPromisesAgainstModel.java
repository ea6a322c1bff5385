/** Generated runs of calls, each answered by MossPromises and by the model: all answers must be the same. */
public final class MossPromisesAgainstModel {
    private static final int RUNS = 3000;
    private static final int CALLS = 512;
    private static final String SIGNS = "pmxas; 0123456789q\u00e9\t-";
    private static final int[] WILD = {Integer.MIN_VALUE, Integer.MIN_VALUE + 1, -1000000, -100, -10, -9, -2, -1, 8, 9, 10,
        11, 21, 50, 99, 100, 199, 200, 255, 256, 65536, Integer.MAX_VALUE - 1, Integer.MAX_VALUE};

    private static long state = 20261119;
    private static MossPromises real;
    private static MossPromisesModel model;
    private static int calls;
    private static int wrong = 0;
    private static final StringBuilder log = new StringBuilder();

    private static int pick(int n) {
        state = state * 6364136223846793005L + 1442695040888963407L;
        return (int) Math.floorMod(state >>> 33, (long) n);
    }

    /** Mostly 0 .. n-1, now and then any number. */
    private static int some(int n) {
        return pick(40) == 0 ? WILD[pick(WILD.length)] : pick(12) == 0 ? n : pick(n);
    }

    private static String tale() {
        StringBuilder s = new StringBuilder();
        boolean acidFirst = pick(2) == 0;
        if (pick(2) == 0) s.append(acidFirst ? "a" : "s").append(1 + pick(20)).append(';');
        int persons = pick(8) == 0 ? pick(8) : 1 + pick(3);
        for (int p = 0; p < persons; p++) {
            s.append('p').append(pick(pick(2) == 0 ? 100 : 12)).append(' ').append(p > 0 && pick(3) > 0 ? pick(p) : 9).append(';');
        }
        if (pick(2) == 0) s.append(acidFirst ? "s" : "a").append(1 + pick(pick(2) == 0 ? 27 : 8)).append(';');
        int slabs = pick(11);
        int cells = 1 + pick(6);
        int depths = 1 + pick(3);
        for (int m = 0; m < slabs && persons > 0; m++) {
            s.append('m').append(pick(persons)).append(' ').append(pick(cells)).append(' ').append(pick(depths)).append(' ')
                .append(1 + pick(9)).append(' ').append(pick(pick(3) == 0 ? 100 : 25));
            for (int k = pick(4); k >= 0; k--) s.append(' ').append(pick(pick(2) == 0 ? 2 : 10));
            s.append(';');
            if (m > 0 && pick(2) == 0) s.append('x').append(pick(m)).append(' ').append(m).append(';');
        }
        for (int i = pick(4); i > 0; i--) {
            if (pick(2) == 0) s.insert(pick(s.length() + 1), ' ');
        }
        if (pick(4) == 0) spoil(s);
        return s.toString();
    }

    private static void spoil(StringBuilder s) {
        char sign = SIGNS.charAt(pick(SIGNS.length()));
        int place = pick(s.length() + 1);
        switch (pick(4)) {
            case 0: s.insert(place, sign); break;
            case 1: if (place < s.length()) s.setCharAt(place, sign); break;
            case 2: if (place < s.length()) s.deleteCharAt(place); break;
            default: s.setLength(place); break;
        }
    }

    private static void same(String call, long got, long want) {
        calls++;
        log.append(call).append(' ').append(got).append('\n');
        if (got != want) {
            wrong++;
            System.out.println(call + " answered " + got + ", the model says " + want + ", behind:\n" + log);
            System.exit(1);
        }
    }

    private static void type(int letter) {
        same("type(" + letter + ")", real.type(letter), model.type(letter));
    }

    private static void tell() {
        String tale = tale();
        for (int i = 0; i < tale.length(); i++) type(tale.charAt(i));
        same("moss()", real.moss(), model.moss());
        if (model.count(5) > 0 && pick(3) > 0) same("clear()", real.clear(), model.clear());
    }

    private static void act(int a, int b) {
        switch (pick(10)) {
            case 0: case 1: case 2: same("cuts " + a, real.cuts(a), model.cuts(a)); break;
            case 3: case 4: same("drains " + a, real.drains(a), model.drains(a)); break;
            case 5: same("does " + b, real.does(b), model.does(b)); break;
            case 6: same("undo", real.undo(), model.undo()); break;
            case 7:
                if (pick(3) == 0) same("keep " + a % 2, real.keep(a % 2), model.keep(a % 2));
                if (pick(6) == 0) same("back " + a % 2, real.back(a % 2), model.back(a % 2));
                break;
            default: same("year", real.year(), model.year()); break;
        }
    }

    private static void ask(int which) {
        int m = some(8);
        int what = some(8);
        int y = some(pick(2) == 0 ? 100 : 8);
        switch (which) {
            case 0: same("person", real.person(m, what % 3), model.person(m, what % 3)); break;
            case 1: same("promise", real.promise(m, what), model.promise(m, what)); break;
            case 2: same("word " + m, real.word(m, what % 5), model.word(m, what % 5)); break;
            case 3: int c = some(6), of = some(4); same("cell " + c + " " + of, real.cell(c, of), model.cell(c, of)); break;
            case 4: same("now", real.now(what), model.now(what)); break;
            case 5: same("left " + m + " " + y, real.left(m, y), model.left(m, y)); break;
            case 6: int n = some(5), t = some(5); same("lasts", real.lasts(n, t, y), model.lasts(n, t, y)); break;
            case 7: same("duty " + m + " " + y, real.duty(m, y), model.duty(m, y)); break;
            case 8: int w = some(pick(2) == 0 ? 2 : 10); same("sees " + w, real.sees(w), model.sees(w)); break;
            case 9: same("forget", real.forget(), model.forget()); break;
            case 10: same("fits", real.fits(), model.fits()); break;
            case 11: same("likely", real.likely(), model.likely()); break;
            case 12: int k = some(2); same("kept " + k, real.kept(k), model.kept(k)); break;
            case 13: int o = some(9) - 1; same("order " + o, real.order(o), model.order(o)); break;
            case 14: int d = some(pick(2) == 0 ? 21 : 5); same("drain " + d, real.drain(d), model.drain(d)); break;
            case 15: int r = some(6); same("rate " + r + " " + m, real.rate(r, m), model.rate(r, m)); break;
            case 16: same("count", real.count(what), model.count(what)); break;
            case 17: same("trace", real.trace(), model.trace()); break;
            case 18: int l = some(256); same("type " + l, real.type(l), model.type(l)); same("clear", real.clear(), model.clear()); break;
            default: int x = some(11), z = some(7), q = some(7), u = some(2);
                same("odds " + x + " " + z + " " + q, real.odds(x, z, q, u), model.odds(x, z, q, u)); break;
        }
    }

    private static void allOdds() {
        for (int x = 0; x <= 10; x++) {
            real = new MossPromises();
            model = new MossPromisesModel();
            for (int i = 0; i < 7 * 7 * 2; i++) {
                int n = i / 14, k = i / 2 % 7, what = i % 2;
                same("odds " + x + " " + n + " " + k + " " + what, real.odds(x, n, k, what), model.odds(x, n, k, what));
            }
        }
    }

    /** All calls with any numbers, beyond the 512th, too: none may throw. */
    private static void wild() {
        for (int run = 0; run < 200; run++) {
            real = new MossPromises();
            for (int i = 0; i < 3000; i++) wildCall();
        }
    }

    private static int any() {
        return pick(3) == 0 ? WILD[pick(WILD.length)] : pick(9);
    }

    private static void wildCall() {
        switch (pick(31)) {
            case 0: case 1: String t = tale(); real.clear(); for (int i = 0; i < t.length(); i++) real.type(t.charAt(i)); break;
            case 2: real.moss(); break;
            case 3: real.person(any(), any()); break;
            case 4: real.promise(any(), any()); break;
            case 5: real.word(any(), any()); break;
            case 6: real.cell(any(), any()); break;
            case 7: real.now(any()); break;
            case 8: real.cuts(any()); break;
            case 9: real.drains(any()); break;
            case 10: real.does(any()); break;
            case 11: for (int i = pick(300); i > 0; i--) real.year(); break;
            case 12: real.undo(); break;
            case 13: real.left(any(), any()); break;
            case 14: real.lasts(any(), any(), any()); break;
            case 15: real.duty(any(), any()); break;
            case 16: real.sees(any()); break;
            case 17: real.forget(); break;
            case 18: real.fits(); break;
            case 19: real.likely(); break;
            case 20: real.kept(any()); break;
            case 21: real.order(any()); break;
            case 22: real.drain(any()); break;
            case 23: real.odds(any(), any(), any(), any()); break;
            case 24: real.rate(any(), any()); break;
            case 25: real.keep(any()); break;
            case 26: real.back(any()); break;
            case 27: real.count(any()); break;
            case 28: real.trace(); break;
            case 29: real.type(any()); break;
            default: real.clear(); break;
        }
    }

    public static void main(String[] args) {
        allOdds();
        for (int run = 0; run < RUNS; run++) {
            real = new MossPromises();
            model = new MossPromisesModel();
            calls = 0;
            log.setLength(0);
            tell();
            while (calls < CALLS - 203) {
                if (pick(120) == 0) tell();
                else if (pick(3) == 0) act(some(6), some(8));
                else ask(pick(20));
            }
        }
        wild();
        System.out.println("all answers are as the model's");
    }
}
