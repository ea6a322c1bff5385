/** A moss of cells in which promises lie as slabs of words; ../shared/DOC.md says what each call answers. */
public final class MossPromises {
    public static final int BAD = -1, STATE = -2, FULL = -3, NONE = -9;
    public static final int NO = -1000000;

    private static final int LETTERS = 200;
    private static final int LETTER_LAST = 255;
    private static final int CELLS = 6;
    private static final int PERSONS = 6;
    private static final int PROMISES = 8;
    private static final int WORDS = 4;
    private static final int WORD_LAST = 9;
    private static final int DEPTH_LAST = 5;
    private static final int SPAN_LAST = 9;
    private static final int TOLD_YEAR_LAST = 99;
    private static final int YEAR_LAST = 999;
    private static final int ACID_FIRST = 10, ACID_LAST = 20;
    private static final int SLIDE_FIRST = 12, SLIDE_LAST = 27;
    private static final int CUT_LAST = 6;
    private static final int WET_LAST = 9;
    private static final int DRIED_LAST = 9;
    private static final int UNDOS = 10;
    private static final int IMAGES = 2;
    private static final int SLIDE_YEARS = 50;
    private static final int DRAIN_YEARS = 20;
    private static final int ODDS_YEARS = 6;
    private static final int NO_HEIR = 9;
    private static final int FAULT_FROM = -10;

    private static final int LIES = 0, FOUND = 1, DONE = 2, LOST = 3;

    private static final int WORD = 0, VOW = 1, LOAN = 2, BRIDE = 3, OAK = 4, THUMB = 5;

    private final Reader reader = new Reader();
    private final Told told = new Told();
    private final Bog now = new Bog();
    private final Past past = new Past();
    private final Bog[] images = new Bog[IMAGES];
    private final boolean[] imageKept = new boolean[IMAGES];
    private final int[] seen = new int[WORDS];
    private final int[] wetThen = new int[CELLS];
    private final int[] wordVotes = new int[WORD_LAST + 1];
    private int seenCount = 0;
    private long traced = 0;

    public MossPromises() {
        for (int i = 0; i < IMAGES; i++) {
            images[i] = new Bog();
        }
    }

    // ---- the moss

    public int type(int letter) {
        if (letter < 0 || letter > LETTER_LAST) {
            return BAD;
        }
        return reader.text.add(letter) ? reader.text.length : FULL;
    }

    public int clear() {
        int had = reader.text.length;
        reader.text.length = 0;
        return had;
    }

    public int moss() {
        int items = reader.readAll();
        if (items < 0) {
            return items;
        }
        told.become(reader.told);
        reader.text.length = 0;
        now.beginAgain();
        past.empty();
        seenCount = 0;
        for (int i = 0; i < IMAGES; i++) {
            imageKept[i] = false;
        }
        return items;
    }

    public int person(int p, int what) {
        if (!told.hasPerson(p)) {
            return BAD;
        }
        switch (what) {
            case 0: return told.dies[p];
            case 1: return told.heir[p];
            default: return BAD;
        }
    }

    public int promise(int m, int what) {
        if (!told.hasPromise(m)) {
            return BAD;
        }
        switch (what) {
            case 0: return told.who[m];
            case 1: return told.cell[m];
            case 2: return told.depth[m];
            case 3: return told.span[m];
            case 4: return told.due[m];
            case 5: return told.wordCount[m];
            case 6: return told.clashes[m];
            case 7: return now.is[m];
            default: return BAD;
        }
    }

    public int word(int m, int k) {
        if (!told.hasPromise(m) || k < 0 || k >= WORDS) {
            return BAD;
        }
        return k < leftIn(m, 0) ? told.wordAt(m, k) : NONE;
    }

    public int cell(int c, int what) {
        if (!isCell(c)) {
            return BAD;
        }
        switch (what) {
            case 0: return now.cut[c];
            case 1: return now.wet[c];
            case 2: return lyingIn(c);
            case 3: return firstSlide(c);
            default: return BAD;
        }
    }

    public int now(int what) {
        switch (what) {
            case 0: return now.year;
            case 1: return thoseThatAre(LIES);
            case 2: return thoseThatAre(FOUND);
            case 3: return thoseThatAre(DONE);
            case 4: return thoseThatAre(LOST);
            case 5: return past.count;
            default: return BAD;
        }
    }

    // ---- what is done

    public int cuts(int c) {
        if (!isCell(c)) {
            return BAD;
        }
        if (now.cut[c] >= CUT_LAST) {
            return STATE;
        }
        past.remember(now);
        int found = 0;
        for (int m = 0; m < PROMISES; m++) {
            if (liesIn(m, c) && told.depth[m] == now.cut[c]) {
                // LEFT is taken ahead of FOUND, since it asks whether the promise still lies
                now.leftWhenFound[m] = leftIn(m, 0);
                now.is[m] = FOUND;
                found++;
            }
        }
        now.cut[c]++;
        return found;
    }

    public int drains(int c) {
        if (!isCell(c)) {
            return BAD;
        }
        int wet = now.wet[c];
        if (wet == 0) {
            return STATE;
        }
        past.remember(now);
        now.wet[c] = 0;
        for (int m = 0; m < PROMISES; m++) {
            if (liesIn(m, c)) {
                now.dried[m] = Math.min(DRIED_LAST, now.dried[m] + 1);
            }
        }
        return wet;
    }

    public int does(int m) {
        if (!told.hasPromise(m)) {
            return BAD;
        }
        if (!mayBeDone(m, thoseThatAre(DONE))) {
            return STATE;
        }
        past.remember(now);
        now.is[m] = DONE;
        return Integer.bitCount(thoseThatAre(DONE));
    }

    public int year() {
        if (now.year >= YEAR_LAST) {
            return STATE;
        }
        past.remember(now);
        now.year++;
        int sliding = letYearPass(now.wet);
        int lost = 0;
        for (int m = 0; m < PROMISES; m++) {
            if (isNow(m, LIES) && holds(sliding, told.cell[m])) {
                now.is[m] = LOST;
                lost++;
            }
        }
        return lost;
    }

    public int undo() {
        if (past.count == 0) {
            return STATE;
        }
        past.giveBack(now);
        return past.count;
    }

    // ---- what is left, who should do it

    public int left(int m, int y) {
        if (!told.hasPromise(m) || !isToldYear(y)) {
            return BAD;
        }
        return leftIn(m, y);
    }

    public int lasts(int n, int t, int y) {
        if (n < 1 || n > WORDS || t < 1 || t > WORDS || !isToldYear(y)) {
            return BAD;
        }
        for (int depth = DEPTH_LAST; depth >= 0; depth--) {
            if (lyingLeft(n, depth, y, 0) >= t) {
                return depth;
            }
        }
        return NONE;
    }

    public int duty(int m, int y) {
        if (!told.hasPromise(m) || !isToldYear(y)) {
            return BAD;
        }
        int p = told.who[m];
        for (int step = 0; step < PERSONS && told.hasPerson(p); step++) {
            if (told.dies[p] > now.year + y) {
                return p;
            }
            p = told.heir[p];
        }
        return NONE;
    }

    // ---- whose

    public int sees(int word) {
        if (word < 0 || word > WORD_LAST) {
            return BAD;
        }
        if (seenCount >= WORDS) {
            return FULL;
        }
        seen[seenCount] = word;
        seenCount++;
        return seenCount;
    }

    public int forget() {
        int had = seenCount;
        seenCount = 0;
        return had;
    }

    public int fits() {
        int bits = 0;
        for (int m = 0; m < PROMISES; m++) {
            if (beginsAsSeen(m)) {
                bits |= 1 << m;
            }
        }
        return bits;
    }

    public int likely() {
        for (int word = 0; word <= WORD_LAST; word++) {
            wordVotes[word] = 0;
        }
        for (int m = 0; m < PROMISES; m++) {
            if (beginsAsSeen(m) && leftIn(m, 0) > seenCount) {
                int next = told.wordAt(m, seenCount);
                if (next >= 0 && next <= WORD_LAST) {
                    wordVotes[next]++;
                }
            }
        }
        int best = NONE;
        int most = 0;
        for (int word = 0; word <= WORD_LAST; word++) {
            if (wordVotes[word] > most) {
                most = wordVotes[word];
                best = word;
            }
        }
        return best;
    }

    // ---- which, when

    public int kept(int what) {
        switch (what) {
            case 0: return bestKept();
            case 1: return wordsLeftOf(bestKept());
            default: return BAD;
        }
    }

    public int order(int k) {
        if (k < -1 || k >= PROMISES) {
            return BAD;
        }
        int set = bestOrdered();
        if (k == -1) {
            return Integer.bitCount(set);
        }
        for (int i = 0; i < k; i++) {
            set = without(set, earliestDue(set));
        }
        return earliestDue(set);
    }

    public int drain(int n) {
        if (n < 0 || n > DRAIN_YEARS) {
            return BAD;
        }
        int best = NONE;
        int fewest = CELLS + 1;
        for (int set = 0; set < 1 << CELLS; set++) {
            // sets come from the least on, so that one of as few cells never takes the place of an earlier
            if (Integer.bitCount(set) < fewest && staysIfDry(set, n)) {
                best = set;
                fewest = Integer.bitCount(set);
            }
        }
        return best;
    }

    public int odds(int x, int n, int k, int what) {
        if (x < 0 || x > 10 || n < 0 || n > ODDS_YEARS || k < 0 || k > ODDS_YEARS || what < 0 || what > 1) {
            return BAD;
        }
        int upper = 0;
        for (int i = k; i <= n; i++) {
            upper += choices(n, i) * power(x, i) * power(10 - x, n - i);
        }
        int lower = power(10, n);
        int common = commonDivisor(upper, lower);
        if (common < 1) {
            return BAD;
        }
        return what == 0 ? upper / common : lower / common;
    }

    // ---- kinds, images

    public int rate(int kind, int m) {
        if (!told.hasPromise(m)) {
            return NO;
        }
        switch (kind) {
            case WORD: return asWord(m);
            case VOW: return asVow(m);
            case LOAN: return asLoan(m);
            case BRIDE: return asBride(m);
            case OAK: return asOak(m);
            case THUMB: return asThumb(m);
            default: return NO;
        }
    }

    public int keep(int image) {
        if (image < 0 || image >= IMAGES || images[image] == null) {
            return BAD;
        }
        images[image].become(now);
        imageKept[image] = true;
        return now.year;
    }

    public int back(int image) {
        if (image < 0 || image >= IMAGES || images[image] == null) {
            return BAD;
        }
        if (!imageKept[image]) {
            return STATE;
        }
        now.become(images[image]);
        past.empty();
        return now.year;
    }

    public int count(int what) {
        switch (what) {
            case 0: return told.persons;
            case 1: return told.promises;
            case 2: return told.acid;
            case 3: return told.slide;
            case 4: return seenCount;
            case 5: return reader.text.length;
            default: return BAD;
        }
    }

    public long trace() {
        return traced;
    }

    // ---- numbers and bits

    private static boolean isCell(int c) {
        return c >= 0 && c < CELLS;
    }

    private static boolean isToldYear(int y) {
        return y >= 0 && y <= TOLD_YEAR_LAST;
    }

    private static boolean holds(int bits, int i) {
        return i >= 0 && (bits >> i & 1) == 1;
    }

    private static int without(int bits, int i) {
        return i < 0 ? bits : bits & ~(1 << i);
    }

    // ---- what promises are

    private boolean isNow(int m, int what) {
        return told.hasPromise(m) && now.is[m] == what;
    }

    private boolean liesIn(int m, int c) {
        return isNow(m, LIES) && told.cell[m] == c;
    }

    private int lyingIn(int c) {
        int bits = 0;
        for (int m = 0; m < PROMISES; m++) {
            if (liesIn(m, c)) {
                bits |= 1 << m;
            }
        }
        return bits;
    }

    private int thoseThatAre(int what) {
        int bits = 0;
        for (int m = 0; m < PROMISES; m++) {
            if (isNow(m, what)) {
                bits |= 1 << m;
            }
        }
        return bits;
    }

    private boolean mayBeDone(int m, int done) {
        return isNow(m, FOUND) && (told.clashes[m] & done) == 0;
    }

    private int leftIn(int m, int years) {
        if (!told.hasPromise(m)) {
            return 0;
        }
        switch (now.is[m]) {
            case LIES: return lyingLeft(told.wordCount[m], told.depth[m], now.year + years, now.dried[m]);
            case LOST: return 0;
            default: return now.leftWhenFound[m];
        }
    }

    private int lyingLeft(int words, int depth, int year, int dried) {
        int eaten = told.acid > 0 ? year * (depth + 1) / told.acid : 0;
        return Math.max(1, words - eaten - dried);
    }

    private boolean beginsAsSeen(int m) {
        if (!isNow(m, LIES) || leftIn(m, 0) < seenCount) {
            return false;
        }
        for (int k = 0; k < seenCount && k < WORDS; k++) {
            if (told.wordAt(m, k) != seen[k]) {
                return false;
            }
        }
        return true;
    }

    // ---- wet cells

    /** Lets one year pass over a row of cells' WET: the cells that slide, as bits. */
    private int letYearPass(int[] wet) {
        for (int c = 0; c < wet.length; c++) {
            wet[c] = Math.min(WET_LAST, wet[c] + 1);
        }
        int sliding = 0;
        for (int c = 0; c < wet.length; c++) {
            if (wetAround(wet, c) >= told.slide) {
                sliding |= 1 << c;
            }
        }
        for (int c = 0; c < wet.length; c++) {
            if (holds(sliding, c)) {
                wet[c] = 0;
            }
        }
        return sliding;
    }

    private static int wetAround(int[] wet, int c) {
        int sum = 0;
        for (int near = Math.max(0, c - 1); near <= c + 1 && near < wet.length; near++) {
            sum += wet[near];
        }
        return sum;
    }

    private int firstSlide(int c) {
        beginWetThen(0);
        for (int years = 1; years <= SLIDE_YEARS; years++) {
            if (holds(letYearPass(wetThen), c)) {
                return years;
            }
        }
        return NONE;
    }

    private boolean staysIfDry(int dry, int years) {
        beginWetThen(dry);
        for (int i = 0; i < years; i++) {
            if (letYearPass(wetThen) != 0) {
                return false;
            }
        }
        return true;
    }

    private void beginWetThen(int dry) {
        for (int c = 0; c < CELLS; c++) {
            wetThen[c] = holds(dry, c) ? 0 : now.wet[c];
        }
    }

    // ---- the best sets

    private int bestKept() {
        int done = thoseThatAre(DONE);
        int may = 0;
        for (int m = 0; m < PROMISES; m++) {
            if (mayBeDone(m, done)) {
                may |= 1 << m;
            }
        }
        int best = 0;
        int most = 0;
        for (int set = 0; set < 1 << PROMISES; set++) {
            if ((set & ~may) == 0 && !clashesWithin(set) && wordsLeftOf(set) > most) {
                best = set;
                most = wordsLeftOf(set);
            }
        }
        return best;
    }

    private boolean clashesWithin(int set) {
        for (int m = 0; m < PROMISES; m++) {
            if (holds(set, m) && (told.clashes[m] & set) != 0) {
                return true;
            }
        }
        return false;
    }

    private int wordsLeftOf(int set) {
        int words = 0;
        for (int m = 0; m < PROMISES; m++) {
            if (holds(set, m)) {
                words += leftIn(m, 0);
            }
        }
        return words;
    }

    private int bestOrdered() {
        int found = thoseThatAre(FOUND);
        int best = 0;
        for (int set = 0; set < 1 << PROMISES; set++) {
            if ((set & ~found) == 0 && Integer.bitCount(set) > Integer.bitCount(best) && endsByDue(set)) {
                best = set;
            }
        }
        return best;
    }

    /** A set can be done in some order just if it can be done by DUE, the earliest first. */
    private boolean endsByDue(int set) {
        int time = now.year;
        int rest = set;
        for (int i = 0; i < PROMISES; i++) {
            int m = earliestDue(rest);
            if (!told.hasPromise(m)) {
                return true;
            }
            time += told.span[m];
            if (time > told.due[m]) {
                return false;
            }
            rest = without(rest, m);
        }
        return true;
    }

    private int earliestDue(int set) {
        int best = NONE;
        int due = TOLD_YEAR_LAST + 1;
        for (int m = 0; m < PROMISES; m++) {
            if (holds(set, m) && told.due[m] < due) {
                best = m;
                due = told.due[m];
            }
        }
        return best;
    }

    // ---- fractions

    private static int choices(int n, int k) {
        int ways = 1;
        for (int i = 1; i <= k; i++) {
            ways = ways * (n - i + 1) / i;
        }
        return ways;
    }

    private static int power(int base, int times) {
        int product = 1;
        for (int i = 0; i < times; i++) {
            product *= base;
        }
        return product;
    }

    private static int commonDivisor(int a, int b) {
        int greater = a;
        int smaller = b;
        // each two steps halve the greater number at least, so 64 steps are enough for any int
        for (int step = 0; step < 64 && smaller != 0; step++) {
            int rest = greater % smaller;
            greater = smaller;
            smaller = rest;
        }
        return greater;
    }

    // ---- kinds: each body adds its own number to THE TRACE

    private int asWord(int m) {
        traced += 1;
        return leftIn(m, 0);
    }

    private int asVow(int m) {
        traced += 10;
        return asWord(m) + told.depth[m];
    }

    private int asLoan(int m) {
        traced += 100;
        return asWord(m) - told.span[m];
    }

    private int asBride(int m) {
        traced += 1000;
        return 2 * asVow(m);
    }

    private int asOak(int m) {
        traced += 10000;
        return asLoan(m) + m;
    }

    private int asThumb(int m) {
        traced += 100000;
        return asWord(m) + now.year;
    }

    /** What the text tells: it stands till a text is read anew. */
    private static final class Told {
        final int[] dies = new int[PERSONS];
        final int[] heir = new int[PERSONS];
        final int[] who = new int[PROMISES];
        final int[] cell = new int[PROMISES];
        final int[] depth = new int[PROMISES];
        final int[] span = new int[PROMISES];
        final int[] due = new int[PROMISES];
        final int[] wordCount = new int[PROMISES];
        final int[] words = new int[PROMISES * WORDS];
        final int[] clashes = new int[PROMISES];
        int persons = 0;
        int promises = 0;
        int acid = ACID_FIRST;
        int slide = SLIDE_FIRST;

        void beginAgain() {
            persons = 0;
            promises = 0;
            acid = ACID_FIRST;
            slide = SLIDE_FIRST;
        }

        void become(Told other) {
            System.arraycopy(other.dies, 0, dies, 0, PERSONS);
            System.arraycopy(other.heir, 0, heir, 0, PERSONS);
            System.arraycopy(other.who, 0, who, 0, PROMISES);
            System.arraycopy(other.cell, 0, cell, 0, PROMISES);
            System.arraycopy(other.depth, 0, depth, 0, PROMISES);
            System.arraycopy(other.span, 0, span, 0, PROMISES);
            System.arraycopy(other.due, 0, due, 0, PROMISES);
            System.arraycopy(other.wordCount, 0, wordCount, 0, PROMISES);
            System.arraycopy(other.words, 0, words, 0, PROMISES * WORDS);
            System.arraycopy(other.clashes, 0, clashes, 0, PROMISES);
            persons = other.persons;
            promises = other.promises;
            acid = other.acid;
            slide = other.slide;
        }

        boolean hasPerson(int p) {
            return p >= 0 && p < persons && p < PERSONS;
        }

        boolean hasPromise(int m) {
            return m >= 0 && m < promises && m < PROMISES;
        }

        int wordAt(int m, int k) {
            return hasPromise(m) && k >= 0 && k < wordCount[m] && k < WORDS ? words[m * WORDS + k] : NONE;
        }
    }

    /** All that years and doings change: what images keep and undo gives back. */
    private static final class Bog {
        final int[] cut = new int[CELLS];
        final int[] wet = new int[CELLS];
        final int[] is = new int[PROMISES];
        final int[] dried = new int[PROMISES];
        final int[] leftWhenFound = new int[PROMISES];
        int year = 0;

        void beginAgain() {
            for (int c = 0; c < CELLS; c++) {
                cut[c] = 0;
                wet[c] = 0;
            }
            for (int m = 0; m < PROMISES; m++) {
                is[m] = LIES;
                dried[m] = 0;
                leftWhenFound[m] = 0;
            }
            year = 0;
        }

        void become(Bog other) {
            System.arraycopy(other.cut, 0, cut, 0, CELLS);
            System.arraycopy(other.wet, 0, wet, 0, CELLS);
            System.arraycopy(other.is, 0, is, 0, PROMISES);
            System.arraycopy(other.dried, 0, dried, 0, PROMISES);
            System.arraycopy(other.leftWhenFound, 0, leftWhenFound, 0, PROMISES);
            year = other.year;
        }
    }

    /** The bog as it stood ahead of the latest doings: a ring, in which the newest takes the oldest one's place. */
    private static final class Past {
        final Bog[] ring = new Bog[UNDOS];
        int next = 0;
        int count = 0;

        Past() {
            for (int i = 0; i < UNDOS; i++) {
                ring[i] = new Bog();
            }
        }

        void empty() {
            count = 0;
        }

        void remember(Bog bog) {
            if (next >= 0 && next < UNDOS && ring[next] != null) {
                ring[next].become(bog);
                next = next + 1 < UNDOS ? next + 1 : 0;
                count = Math.min(UNDOS, count + 1);
            }
        }

        void giveBack(Bog bog) {
            int latest = next > 0 ? next - 1 : UNDOS - 1;
            if (count > 0 && latest < UNDOS && ring[latest] != null) {
                bog.become(ring[latest]);
                next = latest;
                count--;
            }
        }
    }

    /** THE TEXT, and its tokens one by one. */
    private static final class Text {
        static final int NUMBER = '0';
        static final int END = -1;
        static final int WRONG = -2;
        static final int TOO_GREAT = 100;

        final int[] letters = new int[LETTERS];
        int length = 0;
        /** The token that was read last: its letter, or NUMBER, END, WRONG. */
        int sign = END;
        /** The place of that token's first letter, and behind its last. */
        int start = 0;
        int behind = 0;
        int number = 0;

        boolean add(int letter) {
            if (length < 0 || length >= LETTERS) {
                return false;
            }
            letters[length] = letter;
            length++;
            return true;
        }

        void toFront() {
            behind = 0;
        }

        void readToken() {
            start = behind;
            while (start < length && letterAt(start) == ' ') {
                start++;
            }
            behind = Math.min(start + 1, length);
            int letter = letterAt(start);
            switch (letter) {
                case 'p': case 'm': case 'x': case 'a': case 's': case ';': case END:
                    sign = letter;
                    break;
                default:
                    sign = WRONG;
                    if (isDigit(letter)) {
                        readDigits();
                    }
                    break;
            }
        }

        private void readDigits() {
            number = 0;
            behind = start;
            while (behind < length && isDigit(letterAt(behind))) {
                // what is too great stays so: else 200 digits would run over
                number = Math.min(TOO_GREAT, number * 10 + letterAt(behind) - '0');
                behind++;
            }
            boolean zeroAhead = letterAt(start) == '0' && behind > start + 1;
            sign = zeroAhead || number == TOO_GREAT ? WRONG : NUMBER;
        }

        private int letterAt(int place) {
            return place >= 0 && place < length && place < LETTERS ? letters[place] : END;
        }

        private static boolean isDigit(int letter) {
            return letter >= '0' && letter <= '9';
        }
    }

    /** Reads THE TEXT's items into a moss of its own, so that a faulty text changes nothing. */
    private static final class Reader {
        final Text text = new Text();
        final Told told = new Told();
        boolean acidTold = false;
        boolean slideTold = false;

        /** How many items there are, or -10 less FAULT: reading stops with the faulty token as the last one. */
        int readAll() {
            told.beginAgain();
            acidTold = false;
            slideTold = false;
            text.toFront();
            for (int items = 0; items <= LETTERS; items++) {
                text.readToken();
                boolean stands;
                switch (text.sign) {
                    case Text.END: return items;
                    case 'p': stands = readPerson(); break;
                    case 'm': stands = readPromise(); break;
                    case 'x': stands = readClash(); break;
                    case 'a': stands = readAcid(); break;
                    case 's': stands = readSlide(); break;
                    default: stands = false; break;
                }
                if (!stands) {
                    break;
                }
            }
            return FAULT_FROM - text.start;
        }

        private boolean readPerson() {
            int p = told.persons;
            if (p >= PERSONS || !readNumber(0, TOLD_YEAR_LAST)) {
                return false;
            }
            told.dies[p] = text.number;
            if (!readNumber(0, NO_HEIR) || (text.number >= p && text.number != NO_HEIR)) {
                return false;
            }
            told.heir[p] = text.number == NO_HEIR ? NONE : text.number;
            told.persons++;
            return readEnd();
        }

        private boolean readPromise() {
            int m = told.promises;
            if (m >= PROMISES || !readNumber(0, told.persons - 1)) {
                return false;
            }
            told.who[m] = text.number;
            if (!readNumber(0, CELLS - 1)) {
                return false;
            }
            told.cell[m] = text.number;
            if (!readNumber(0, DEPTH_LAST)) {
                return false;
            }
            told.depth[m] = text.number;
            if (!readNumber(1, SPAN_LAST)) {
                return false;
            }
            told.span[m] = text.number;
            if (!readNumber(0, TOLD_YEAR_LAST)) {
                return false;
            }
            told.due[m] = text.number;
            told.clashes[m] = 0;
            told.promises++;
            return readWords(m);
        }

        /** Words till the item's end; one at least. */
        private boolean readWords(int m) {
            for (int k = 0; k <= WORDS; k++) {
                text.readToken();
                if (text.sign == ';') {
                    return k > 0;
                }
                if (text.sign != Text.NUMBER || text.number > WORD_LAST || k == WORDS) {
                    return false;
                }
                told.words[m * WORDS + k] = text.number;
                told.wordCount[m] = k + 1;
            }
            return false;
        }

        private boolean readClash() {
            if (!readNumber(0, told.promises - 1)) {
                return false;
            }
            int one = text.number;
            if (!readNumber(0, told.promises - 1) || text.number == one) {
                return false;
            }
            int other = text.number;
            told.clashes[one] |= 1 << other;
            told.clashes[other] |= 1 << one;
            return readEnd();
        }

        private boolean readAcid() {
            if (acidTold || !readNumber(1, ACID_LAST)) {
                return false;
            }
            acidTold = true;
            told.acid = text.number;
            return readEnd();
        }

        private boolean readSlide() {
            if (slideTold || !readNumber(1, SLIDE_LAST)) {
                return false;
            }
            slideTold = true;
            told.slide = text.number;
            return readEnd();
        }

        private boolean readNumber(int least, int greatest) {
            text.readToken();
            return text.sign == Text.NUMBER && text.number >= least && text.number <= greatest;
        }

        private boolean readEnd() {
            text.readToken();
            return text.sign == ';';
        }
    }
}
