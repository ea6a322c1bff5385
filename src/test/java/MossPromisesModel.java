import java.math.BigInteger;
import java.util.ArrayList;
import java.util.Arrays;
import java.util.List;
import java.util.TreeMap;

/**
 * A second MossPromises, written from the document alone and as plainly as can be: it keeps what was told and what was
 * done, and plays all of it again for each answer. Generated runs compare the two.
 */
final class MossPromisesModel {
    static final int BAD = -1, STATE = -2, FULL = -3, NONE = -9, NO = -1000000;

    static final class Slab {
        int who, cell, depth, span, due;
        final List<Integer> words = new ArrayList<>();
        final List<Integer> clashes = new ArrayList<>();
    }

    static final class Tale {
        final List<int[]> persons = new ArrayList<>();
        final List<Slab> slabs = new ArrayList<>();
        int acid = 10, slide = 12, items = 0, fault = -1;
    }

    /** How all stands: made from the deeds, never changed by a question. */
    static final class Stand {
        int year = 0;
        int[] cut = new int[6], wet = new int[6];
        char[] is = "LLLLLLLL".toCharArray();
        int[] dried = new int[8], foundYear = new int[8];
    }

    private String text = "";
    private Tale tale = new Tale();
    private final List<int[]> deeds = new ArrayList<>();
    private int undoable = 0;
    private final List<List<int[]>> images = new ArrayList<>(Arrays.asList(null, null));
    private final List<Integer> seen = new ArrayList<>();
    private long trace = 0;

    private Stand stand() {
        Stand s = new Stand();
        for (int[] deed : deeds) {
            play(s, deed);
        }
        return s;
    }

    /** The answer of a deed, or STATE. */
    private int play(Stand s, int[] deed) {
        int i = deed[1];
        int n = 0;
        switch (deed[0]) {
            case 'c':
                if (s.cut[i] == 6) return STATE;
                for (int m = 0; m < tale.slabs.size(); m++) {
                    Slab slab = tale.slabs.get(m);
                    if (s.is[m] == 'L' && slab.cell == i && slab.depth == s.cut[i]) {
                        s.is[m] = 'F';
                        s.foundYear[m] = s.year;
                        n++;
                    }
                }
                s.cut[i]++;
                return n;
            case 'd':
                n = s.wet[i];
                if (n == 0) return STATE;
                s.wet[i] = 0;
                for (int m = 0; m < tale.slabs.size(); m++) {
                    if (s.is[m] == 'L' && tale.slabs.get(m).cell == i) s.dried[m]++;
                }
                return n;
            case 'o':
                if (s.is[i] != 'F') return STATE;
                for (int other : tale.slabs.get(i).clashes) {
                    if (s.is[other] == 'D') return STATE;
                }
                s.is[i] = 'D';
                return bits(s, 'D').size();
            default:
                if (s.year == 999) return STATE;
                s.year++;
                List<Integer> sliding = pass(s.wet);
                for (int m = 0; m < tale.slabs.size(); m++) {
                    if (s.is[m] == 'L' && sliding.contains(tale.slabs.get(m).cell)) {
                        s.is[m] = 'X';
                        n++;
                    }
                }
                return n;
        }
    }

    private List<Integer> pass(int[] wet) {
        int[] edged = new int[8];
        for (int c = 0; c < 6; c++) edged[c + 1] = wet[c] == 9 ? 9 : wet[c] + 1;
        List<Integer> sliding = new ArrayList<>();
        for (int c = 0; c < 6; c++) {
            boolean slides = edged[c] + edged[c + 1] + edged[c + 2] >= tale.slide;
            if (slides) sliding.add(c);
            wet[c] = slides ? 0 : edged[c + 1];
        }
        return sliding;
    }

    private List<Integer> bits(Stand s, char what) {
        List<Integer> all = new ArrayList<>();
        for (int m = 0; m < tale.slabs.size(); m++) if (s.is[m] == what) all.add(m);
        return all;
    }

    private static int mask(List<Integer> all) {
        int sum = 0;
        for (int i : all) sum += (int) Math.pow(2, i);
        return sum;
    }

    private List<Integer> leftWords(Stand s, int m, int years) {
        Slab slab = tale.slabs.get(m);
        if (s.is[m] == 'X') return List.of();
        int at = s.is[m] == 'L' ? s.year + years : s.foundYear[m];
        return slab.words.subList(0, remaining(slab.words.size(), slab.depth, at, s.dried[m]));
    }

    private int remaining(int n, int depth, int year, int dried) {
        int gone = (int) Math.floor((double) year * (depth + 1) / tale.acid + 1e-9) + Math.min(9, dried);
        return n - gone < 1 ? 1 : n - gone;
    }

    private int deed(int kind, int i) {
        int answer = play(stand(), new int[] {kind, i});
        if (answer == STATE) return STATE;
        deeds.add(new int[] {kind, i});
        undoable = Math.min(10, undoable + 1);
        return answer;
    }

    // ---- the text

    private static final class Faulty extends Exception {
        final int place;
        Faulty(int place) { this.place = place; }
    }

    private static final class Tokens {
        final List<String> words = new ArrayList<>();
        final List<Integer> places = new ArrayList<>();
        int next = 0;

        Tokens(String text) {
            int i = 0;
            while (i < text.length()) {
                char ch = text.charAt(i);
                int from = i;
                i++;
                if (ch == ' ') continue;
                if (Character.isDigit(ch) && ch < 128) {
                    while (i < text.length() && text.charAt(i) >= '0' && text.charAt(i) <= '9') i++;
                }
                words.add(text.substring(from, i));
                places.add(from);
            }
            places.add(text.length());
        }

        String peek() { return next < words.size() ? words.get(next) : ""; }
        int place() { return places.get(next); }
        boolean takes(String wanted) {
            if (!peek().equals(wanted)) return false;
            next++;
            return true;
        }
        void need(String wanted) throws Faulty { if (!takes(wanted)) throw new Faulty(place()); }
        int number(int low, int high, int also) throws Faulty {
            if (!peek().matches("0|[1-9][0-9]?")) throw new Faulty(place());
            int n = Integer.parseInt(peek());
            if ((n < low || n > high) && n != also) throw new Faulty(place());
            next++;
            return n;
        }
    }

    private Tale read() {
        Tale t = new Tale();
        Tokens k = new Tokens(text);
        try {
            boolean acid = false, slide = false;
            while (!k.peek().isEmpty()) {
                if (t.persons.size() < 6 && k.takes("p")) {
                    t.persons.add(new int[] {k.number(0, 99, -1), k.number(0, t.persons.size() - 1, 9)});
                } else if (t.slabs.size() < 8 && k.takes("m")) {
                    Slab slab = new Slab();
                    slab.who = k.number(0, t.persons.size() - 1, -1);
                    slab.cell = k.number(0, 5, -1);
                    slab.depth = k.number(0, 5, -1);
                    slab.span = k.number(1, 9, -1);
                    slab.due = k.number(0, 99, -1);
                    do {
                        slab.words.add(k.number(0, 9, -1));
                    } while (slab.words.size() < 4 && !k.peek().equals(";"));
                    t.slabs.add(slab);
                } else if (k.takes("x")) {
                    int a = k.number(0, t.slabs.size() - 1, -1);
                    int place = k.place();
                    int b = k.number(0, t.slabs.size() - 1, -1);
                    if (a == b) throw new Faulty(place);
                    if (!t.slabs.get(a).clashes.contains(b)) {
                        t.slabs.get(a).clashes.add(b);
                        t.slabs.get(b).clashes.add(a);
                    }
                } else if (!acid && k.takes("a")) {
                    acid = true;
                    t.acid = k.number(1, 20, -1);
                } else if (!slide && k.takes("s")) {
                    slide = true;
                    t.slide = k.number(1, 27, -1);
                } else {
                    throw new Faulty(k.place());
                }
                k.need(";");
                t.items++;
            }
        } catch (Faulty f) {
            t.fault = f.place;
        }
        return t;
    }

    // ---- the calls

    int type(int letter) {
        if (letter < 0 || letter > 255) return BAD;
        if (text.length() == 200) return FULL;
        text += (char) letter;
        return text.length();
    }

    int clear() {
        int n = text.length();
        text = "";
        return n;
    }

    int moss() {
        Tale t = read();
        if (t.fault >= 0) return -10 - t.fault;
        tale = t;
        text = "";
        deeds.clear();
        undoable = 0;
        images.set(0, null);
        images.set(1, null);
        seen.clear();
        return t.items;
    }

    private boolean isNo(int i, int size) { return i < 0 || i >= size; }
    private boolean noSlab(int m) { return isNo(m, tale.slabs.size()); }

    int person(int p, int what) {
        if (isNo(p, tale.persons.size()) || isNo(what, 2)) return BAD;
        int n = tale.persons.get(p)[what];
        return what == 1 && n == 9 ? NONE : n;
    }

    int promise(int m, int what) {
        if (noSlab(m) || isNo(what, 8)) return BAD;
        Slab s = tale.slabs.get(m);
        int[] all = {s.who, s.cell, s.depth, s.span, s.due, s.words.size(), mask(s.clashes), "LFDX".indexOf(stand().is[m])};
        return all[what];
    }

    int word(int m, int k) {
        if (noSlab(m) || isNo(k, 4)) return BAD;
        List<Integer> words = leftWords(stand(), m, 0);
        return k < words.size() ? words.get(k) : NONE;
    }

    int cell(int c, int what) {
        if (isNo(c, 6) || isNo(what, 4)) return BAD;
        Stand s = stand();
        if (what == 0) return s.cut[c];
        if (what == 1) return s.wet[c];
        if (what == 2) {
            List<Integer> in = bits(s, 'L');
            in.removeIf(m -> tale.slabs.get(m).cell != c);
            return mask(in);
        }
        for (int y = 1; y <= 50; y++) if (pass(s.wet).contains(c)) return y;
        return NONE;
    }

    int now(int what) {
        if (isNo(what, 6)) return BAD;
        Stand s = stand();
        return what == 0 ? s.year : what == 5 ? undoable : mask(bits(s, "LFDX".charAt(what - 1)));
    }

    int cuts(int c) { return isNo(c, 6) ? BAD : deed('c', c); }
    int drains(int c) { return isNo(c, 6) ? BAD : deed('d', c); }
    int does(int m) { return noSlab(m) ? BAD : deed('o', m); }
    int year() { return deed('y', 0); }

    int undo() {
        if (undoable == 0) return STATE;
        deeds.remove(deeds.size() - 1);
        return --undoable;
    }

    int left(int m, int y) { return noSlab(m) || isNo(y, 100) ? BAD : leftWords(stand(), m, y).size(); }

    int lasts(int n, int t, int y) {
        if (isNo(n - 1, 4) || isNo(t - 1, 4) || isNo(y, 100)) return BAD;
        int best = NONE;
        for (int d = 0; d < 6; d++) if (remaining(n, d, y, 0) >= t) best = d;
        return best;
    }

    int duty(int m, int y) {
        if (noSlab(m) || isNo(y, 100)) return BAD;
        return heirOf(tale.slabs.get(m).who, stand().year + y);
    }

    private int heirOf(int p, int year) {
        if (p == 9) return NONE;
        return tale.persons.get(p)[0] > year ? p : heirOf(tale.persons.get(p)[1], year);
    }

    int sees(int word) {
        if (isNo(word, 10)) return BAD;
        if (seen.size() == 4) return FULL;
        seen.add(word);
        return seen.size();
    }

    int forget() {
        int n = seen.size();
        seen.clear();
        return n;
    }

    private List<Integer> fitting(Stand s) {
        List<Integer> all = bits(s, 'L');
        all.removeIf(m -> {
            List<Integer> words = leftWords(s, m, 0);
            return words.size() < seen.size() || !words.subList(0, seen.size()).equals(seen);
        });
        return all;
    }

    int fits() { return mask(fitting(stand())); }

    int likely() {
        Stand s = stand();
        TreeMap<Integer, Integer> votes = new TreeMap<>();
        for (int m : fitting(s)) {
            List<Integer> words = leftWords(s, m, 0);
            if (words.size() > seen.size()) votes.merge(words.get(seen.size()), 1, Integer::sum);
        }
        int most = votes.values().stream().mapToInt(v -> v).max().orElse(0);
        for (int word : votes.keySet()) if (votes.get(word) == most) return word;
        return NONE;
    }

    int kept(int what) {
        if (isNo(what, 2)) return BAD;
        Stand s = stand();
        int best = 0, most = 0;
        for (int set = 255; set >= 0; set--) {
            int words = 0;
            boolean can = true;
            for (int m = 0; m < 8; m++) {
                if (set / (1 << m) % 2 == 0) continue;
                if (noSlab(m) || s.is[m] != 'F') { can = false; break; }
                words += leftWords(s, m, 0).size();
                for (int o : tale.slabs.get(m).clashes) can &= set / (1 << o) % 2 == 0 && s.is[o] != 'D';
            }
            if (can && words >= most) { best = set; most = words; }
        }
        return what == 0 ? best : most;
    }

    /** All orders are tried: sets grow promise by promise, in every row. */
    private void tryRows(List<Integer> found, List<Integer> row, int time, boolean[] can) {
        can[mask(row)] = true;
        for (int m : found) {
            Slab slab = tale.slabs.get(m);
            if (!row.contains(m) && time + slab.span <= slab.due) {
                row.add(m);
                tryRows(found, row, time + slab.span, can);
                row.remove(row.size() - 1);
            }
        }
    }

    int order(int k) {
        if (k < -1 || k > 7) return BAD;
        Stand s = stand();
        boolean[] can = new boolean[256];
        tryRows(bits(s, 'F'), new ArrayList<>(), s.year, can);
        List<Integer> best = new ArrayList<>();
        for (int set = 0; set < 256; set++) {
            List<Integer> in = new ArrayList<>();
            for (int m = 0; m < 8; m++) if (set / (1 << m) % 2 == 1) in.add(m);
            if (can[set] && in.size() > best.size()) best = in;
        }
        best.sort((a, b) -> tale.slabs.get(a).due * 10 + a - tale.slabs.get(b).due * 10 - b);
        return k == -1 ? best.size() : k < best.size() ? best.get(k) : NONE;
    }

    int drain(int n) {
        if (isNo(n, 21)) return BAD;
        for (int size = 0; size <= 6; size++) {
            for (int set = 0; set < 64; set++) {
                if (Integer.bitCount(set) != size) continue;
                int[] wet = stand().wet;
                for (int c = 0; c < 6; c++) if (set / (1 << c) % 2 == 1) wet[c] = 0;
                boolean slid = false;
                for (int y = 0; y < n; y++) slid |= !pass(wet).isEmpty();
                if (!slid) return set;
            }
        }
        return NONE;
    }

    private static long ways(int x, int n, int k) {
        if (n == 0) return k <= 0 ? 1 : 0;
        return x * ways(x, n - 1, k - 1) + (10 - x) * ways(x, n - 1, k);
    }

    int odds(int x, int n, int k, int what) {
        if (isNo(x, 11) || isNo(n, 7) || isNo(k, 7) || isNo(what, 2)) return BAD;
        BigInteger upper = BigInteger.valueOf(ways(x, n, k));
        BigInteger lower = BigInteger.TEN.pow(n);
        return (what == 0 ? upper : lower).divide(upper.gcd(lower)).intValue();
    }

    int rate(int kind, int m) {
        if (isNo(kind, 6) || noSlab(m)) return NO;
        Slab slab = tale.slabs.get(m);
        Stand s = stand();
        int words = leftWords(s, m, 0).size();
        trace += new int[] {1, 11, 101, 1011, 10101, 100001}[kind];
        int[] all = {words, words + slab.depth, words - slab.span, 2 * (words + slab.depth), words - slab.span + m, words + s.year};
        return all[kind];
    }

    int keep(int image) {
        if (isNo(image, 2)) return BAD;
        images.set(image, new ArrayList<>(deeds));
        return stand().year;
    }

    int back(int image) {
        if (isNo(image, 2)) return BAD;
        if (images.get(image) == null) return STATE;
        deeds.clear();
        deeds.addAll(images.get(image));
        undoable = 0;
        return stand().year;
    }

    int count(int what) {
        int[] all = {tale.persons.size(), tale.slabs.size(), tale.acid, tale.slide, seen.size(), text.length()};
        return isNo(what, 6) ? BAD : all[what];
    }

    long trace() { return trace; }
}
