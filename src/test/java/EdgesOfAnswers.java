/** The edges of what is asked: a test for each sentence of the document's parts 3 and 4, and of promises 5 to 9, 15 to 30. */
public final class EdgesOfAnswers {
    private static final String EIGHT_FOUND = "p9 9;" + Due.times("m0 0 0 1 8 1 2 3 4;", 8);

    private interface Ask {
        int of(int number);
    }

    /** These numbers, and all that are far away, are BAD. */
    private static void bad(String call, Ask ask, int... numbers) {
        for (int number : numbers) {
            Due.due(call + " of " + number, ask.of(number), Due.BAD);
        }
        for (int far : Due.FAR) {
            Due.due(call + " of " + far, ask.of(far), Due.BAD);
        }
    }

    private static void row(String call, Ask ask, int... want) {
        for (int i = 0; i < want.length; i++) {
            Due.due(call + " of " + i, ask.of(i), want[i]);
        }
    }

    // ---- the moss

    private static void person() {
        Due.sentence("Of a PERSON: 0 DIES, 1 HEIR (NONE). BAD.");
        MossPromises x = Due.told("p0 9;p9 0;p8 1;p7 2;p6 3;p99 4;");
        row("person(0, ..)", what -> x.person(0, what), 0, Due.NONE);
        row("person(5, ..)", what -> x.person(5, what), 99, 4);
        bad("person(.., 0)", p -> x.person(p, 0), -1, 6, 9);
        bad("person(.., 1)", p -> x.person(p, 1), -1, 6, 9);
        bad("person(0, ..)", what -> x.person(0, what), -1, 2);
        MossPromises one = Due.told("p0 9;");
        bad("person(.., 0), one is told", p -> one.person(p, 0), -1, 1, 5, 6);
    }

    private static void promise() {
        Due.sentence("7 what it is (0 it LIES, 1 FOUND, 2 DONE, 3 LOST). BAD.");
        MossPromises x = Due.told("s7;p1 9;p1 9;m1 5 4 9 99 1 2 3;m0 0 0 1 0 1;m0 0 0 1 0 1;m0 2 0 1 0 1;x0 2;x2 1;");
        x.cuts(0);
        x.does(1);
        Due.years(x, 3);
        row("promise(0, ..)", what -> x.promise(0, what), 1, 5, 4, 9, 99, 3, 4, 0);
        row("promise(1, ..)", what -> x.promise(1, what), 0, 0, 0, 1, 0, 1, 4, 2);
        row("promise(2, ..)", what -> x.promise(2, what), 0, 0, 0, 1, 0, 1, 3, 1);
        row("promise(3, ..)", what -> x.promise(3, what), 0, 2, 0, 1, 0, 1, 0, 3);
        bad("promise(0, ..)", what -> x.promise(0, what), -1, 8);
        bad("promise(.., 7)", m -> x.promise(m, 7), -1, 4, 7, 8);
        MossPromises eight = Due.told(EIGHT_FOUND);
        bad("promise(.., 0), eight are told", m -> eight.promise(m, 0), -1, 8);
    }

    private static void word() {
        Due.sentence("NONE: there are not so many. BAD (0 .. 3).");
        MossPromises x = Due.told("a10;p9 9;m0 0 0 1 9 9 8 7 6;m0 1 0 1 9 5;m0 2 0 1 9 4 3 2 1;");
        row("word(0, ..)", k -> x.word(0, k), 9, 8, 7, 6);
        row("word(1, ..)", k -> x.word(1, k), 5, Due.NONE, Due.NONE, Due.NONE);
        bad("word(0, ..)", k -> x.word(0, k), -1, 4);
        bad("word(1, ..)", k -> x.word(1, k), -1, 4);
        bad("word(.., 0)", m -> x.word(m, 0), -1, 3, 7, 8);
        Due.years(x, 4);
        row("word(2, ..), LOST", k -> x.word(2, k), Due.NONE, Due.NONE, Due.NONE, Due.NONE);
        bad("word(2, ..), LOST", k -> x.word(2, k), -1, 4);
        Due.years(x, 6);
        MossPromises y = Due.years(Due.told("a10;s27;p9 9;m0 0 0 1 9 9 8 7 6;"), 9);
        row("word(0, ..) in YEAR 9", k -> y.word(0, k), 9, 8, 7, 6);
        y.year();
        row("word(0, ..) in YEAR 10", k -> y.word(0, k), 9, 8, 7, Due.NONE);
    }

    private static void cell() {
        Due.sentence("0 how deep it is CUT, 1 how WET, 2 PROMISES that LIE there (bits), 3 SLIDES (NONE). BAD.");
        MossPromises x = Due.told("s27;p9 9;" + Due.times("m0 5 0 1 9 1;", 7) + "m0 5 1 1 9 1;");
        row("cell(5, ..)", what -> x.cell(5, what), 0, 0, 255, Due.NONE);
        x.cuts(5);
        x.year();
        row("cell(5, ..)", what -> x.cell(5, what), 1, 1, 128, Due.NONE);
        row("cell(0, ..)", what -> x.cell(0, what), 0, 1, 0, Due.NONE);
        bad("cell(0, ..)", what -> x.cell(0, what), -1, 4);
        for (int what = 0; what < 4; what++) {
            int one = what;
            bad("cell(.., " + what + ")", c -> x.cell(c, one), -1, 6);
        }
    }

    private static void now() {
        Due.sentence("0 THE YEAR, 1 what LIES, 2 is FOUND, 3 DONE, 4 LOST (bits), 5 how many may be UNDONE. BAD.");
        MossPromises x = Due.told("s2;p9 9;" + Due.times("m0 3 0 1 9 1;", 2) + "m0 0 0 1 9 1;" + Due.times("m0 4 1 1 9 1;", 4)
            + "m0 3 0 1 9 1;");
        row("now(..)", x::now, 0, 255, 0, 0, 0, 0);
        x.cuts(3);
        x.does(7);
        x.year();
        row("now(..)", x::now, 1, 0, 3, 128, 4 + 8 + 16 + 32 + 64, 3);
        bad("now(..)", x::now, -1, 6);
    }

    private static void nothingIsChangedByAsking() {
        Due.sentence("(As things are NOW; nothing is changed.)");
        MossPromises x = Due.told("p9 9;m0 0 0 1 9 1 2 3;m0 1 0 1 9 1;");
        Due.years(x, 2).cuts(0);
        Due.sees(x, 1);
        for (int i = 0; i < 3; i++) {
            row("now(..)", x::now, 2, 2, 1, 0, 0, 3);
            Due.due("cell(2, 3)", x.cell(2, 3), 2);
            Due.due("drain(2)", x.drain(2), 9);
            Due.due("left(1, 99)", x.left(1, 99), 1);
            Due.due("fits()", x.fits(), 2);
            Due.due("likely()", x.likely(), Due.NONE);
            Due.due("kept(1)", x.kept(1), 3);
            Due.due("order(0)", x.order(0), 0);
            Due.due("lasts(4, 4, 2)", x.lasts(4, 4, 2), 3);
            Due.due("duty(0, 6)", x.duty(0, 6), 0);
            row("cell(1, ..)", what -> x.cell(1, what), 0, 2, 2);
        }
    }

    // ---- what is left, who should do it

    private static void left() {
        Due.sentence("LEFT in y (0 .. 99) more years of a PROMISE");
        MossPromises x = Due.told("a20;s27;p9 9;m0 0 0 1 9 1 2 3 4;m0 1 0 1 9 1 2 3 4;m0 2 0 1 9 1 2;");
        Due.due("left(0, 0)", x.left(0, 0), 4);
        Due.due("left(0, 59)", x.left(0, 59), 2);
        Due.due("left(0, 60)", x.left(0, 60), 1);
        Due.due("left(0, 99)", x.left(0, 99), 1);
        bad("left(0, ..)", y -> x.left(0, y), -1, 100);
        bad("left(.., 0)", m -> x.left(m, 0), -1, 3, 7, 8);
        Due.years(x, 5);
        Due.due("left(0, 14), from YEAR 5", x.left(0, 14), 4);
        Due.due("left(0, 15), from YEAR 5", x.left(0, 15), 3);
        Due.sentence("(that LIES: were it to LIE on; FOUND, DONE: as it is; LOST: 0)");
        x.cuts(0);
        x.cuts(1);
        x.does(1);
        Due.due("left(0, 99), FOUND", x.left(0, 99), 4);
        Due.due("left(1, 99), DONE", x.left(1, 99), 4);
        Due.due("left(2, 99), where its cell slides", x.left(2, 99), 1);
        Due.years(x, 4);
        Due.due("left(2, 0), LOST", x.left(2, 0), 0);
        Due.due("left(2, 99), LOST", x.left(2, 99), 0);
        bad("left(2, ..), LOST", y -> x.left(2, y), -1, 100);
    }

    private static void lasts() {
        Due.sentence("LASTS of n WORDS (1 .. 4), t (1 .. 4), y (0 .. 99)");
        MossPromises x = new MossPromises();
        Due.due("lasts(1, 1, 0)", x.lasts(1, 1, 0), 5);
        Due.due("lasts(4, 4, 0)", x.lasts(4, 4, 0), 5);
        Due.due("lasts(1, 1, 99): 1 at least", x.lasts(1, 1, 99), 5);
        Due.due("lasts(4, 1, 99): 1 at least", x.lasts(4, 1, 99), 5);
        bad("lasts(.., 1, 0)", n -> x.lasts(n, 1, 0), 0, 5);
        bad("lasts(1, .., 0)", t -> x.lasts(1, t, 0), 0, 5);
        bad("lasts(1, 1, ..)", y -> x.lasts(1, 1, y), -1, 100);
        Due.sentence("the greatest DEPTH at which one of n WORDS that is laid in YEAR 0 has t LEFT in YEAR y, or more; NONE.");
        Due.due("lasts(4, 4, 1)", x.lasts(4, 4, 1), 5);
        Due.due("lasts(4, 4, 2)", x.lasts(4, 4, 2), 3);
        Due.due("lasts(4, 4, 9)", x.lasts(4, 4, 9), 0);
        Due.due("lasts(4, 4, 10)", x.lasts(4, 4, 10), Due.NONE);
        Due.due("lasts(4, 2, 29)", x.lasts(4, 2, 29), 0);
        Due.due("lasts(4, 2, 30)", x.lasts(4, 2, 30), Due.NONE);
        Due.due("lasts(4, 2, 99)", x.lasts(4, 2, 99), Due.NONE);
        Due.due("lasts(1, 2, 0): more than there are", x.lasts(1, 2, 0), Due.NONE);
        Due.due("lasts(3, 4, 0): more than there are", x.lasts(3, 4, 0), Due.NONE);
        MossPromises weak = Due.told("s27;a20;");
        Due.due("lasts(4, 4, 3), ACID 20", weak.lasts(4, 4, 3), 5);
        Due.due("lasts(4, 4, 4), ACID 20", weak.lasts(4, 4, 4), 3);
        Due.years(weak, 50).drains(0);
        Due.due("lasts(4, 4, 3), in YEAR 50", weak.lasts(4, 4, 3), 5);
        MossPromises strong = Due.told("a1;");
        Due.due("lasts(4, 4, 1), ACID 1", strong.lasts(4, 4, 1), Due.NONE);
        Due.due("lasts(4, 3, 1), ACID 1", strong.lasts(4, 3, 1), 0);
        Due.due("lasts(4, 2, 1), ACID 1", strong.lasts(4, 2, 1), 1);
        Due.due("lasts(2, 1, 1), ACID 1", strong.lasts(2, 1, 1), 5);
    }

    private static void duty() {
        Due.sentence("DUTY of a PROMISE in y (0 .. 99) more years");
        MossPromises x = Due.told("p99 9;p5 0;p3 1;p0 9;m2 0 0 1 9 1;m3 0 0 1 9 1;m0 0 0 1 9 1;");
        Due.due("duty(2, 0)", x.duty(2, 0), 0);
        bad("duty(0, ..)", y -> x.duty(0, y), -1, 100);
        bad("duty(.., 0)", m -> x.duty(m, 0), -1, 3, 7, 8);
        Due.sentence("WHO, if he DIES later than that YEAR; else his HEIR likewise, and so on; NONE.");
        Due.due("duty(0, 2)", x.duty(0, 2), 2);
        Due.due("duty(0, 3): he dies in it", x.duty(0, 3), 1);
        Due.due("duty(0, 4)", x.duty(0, 4), 1);
        Due.due("duty(0, 5)", x.duty(0, 5), 0);
        Due.due("duty(2, 98)", x.duty(2, 98), 0);
        Due.due("duty(2, 99): he dies in it", x.duty(2, 99), Due.NONE);
        Due.due("duty(0, 99): all are dead", x.duty(0, 99), Due.NONE);
        Due.due("duty(1, 0): dead in YEAR 0, no heir", x.duty(1, 0), Due.NONE);
        x.year();
        Due.due("duty(0, 1), from YEAR 1", x.duty(0, 1), 2);
        Due.due("duty(0, 2), from YEAR 1", x.duty(0, 2), 1);
        Due.due("duty(2, 97), from YEAR 1", x.duty(2, 97), 0);
        Due.due("duty(2, 98), from YEAR 1", x.duty(2, 98), Due.NONE);
        MossPromises y = Due.told("p1 9;p9 0;m0 0 0 1 9 1;m1 0 0 1 9 1;");
        Due.due("duty(1, 1): he himself, his heir is dead", y.duty(1, 1), 1);
        Due.due("duty(0, 1): who has him as heir does not matter", y.duty(0, 1), Due.NONE);
        MossPromises six = Due.told("p99 9;p0 0;p0 1;p0 2;p0 3;p0 4;m5 0 0 1 9 1;");
        Due.due("duty(0, 98): the fifth heir", six.duty(0, 98), 0);
    }

    // ---- whose

    private static void seen() {
        Due.sentence("SEEN (4 at most): the first WORDS of a slab, one behind another.");
        MossPromises x = new MossPromises();
        row("sees(..)", x::sees, 1, 2, 3, 4);
        Due.due("count(4)", x.count(4), 4);
        Due.sentence("SEEN: one WORD more: how many there are. BAD; FULL.");
        Due.due("sees(0), the fifth", x.sees(0), Due.FULL);
        Due.due("sees(9), the fifth", x.sees(9), Due.FULL);
        bad("sees(..), the fifth", x::sees, -1, 10);
        Due.sentence("Nothing is SEEN: how many there were.");
        Due.due("forget()", x.forget(), 4);
        Due.due("forget() again", x.forget(), 0);
        bad("sees(..)", x::sees, -1, 10);
        Due.due("count(4)", x.count(4), 0);
        Due.due("sees(9)", x.sees(9), 1);
        Due.due("sees(0)", x.sees(0), 2);
    }

    private static void fits() {
        Due.sentence("FITS: PROMISES (bits) that LIE, have so many WORDS LEFT NOW, or more, and begin so.");
        Due.due("fits() of nothing", new MossPromises().fits(), 0);
        MossPromises x = Due.told("a2;s27;p9 9;m0 0 0 1 9 0 9 0 9;m0 1 0 1 9 0 9;m0 1 0 1 9 0;m0 2 0 1 9 9 0 9 0;m0 2 1 1 9 0 9 1;");
        Due.due("fits(), nothing SEEN", x.fits(), 31);
        Due.due("fits(), 0", Due.sees(x, 0).fits(), 1 + 2 + 4 + 16);
        Due.due("fits(), 0 9", Due.sees(x, 9).fits(), 1 + 2 + 16);
        Due.due("fits(), 0 9 0", Due.sees(x, 0).fits(), 1);
        Due.due("fits(), 0 9 0 9", Due.sees(x, 9).fits(), 1);
        x.year();
        Due.due("fits(), four are LEFT yet", x.fits(), 1);
        x.year();
        Due.due("fits(), three are LEFT", x.fits(), 0);
        x.forget();
        Due.due("fits(), 0 9 0 and just so many LEFT", Due.sees(x, 0, 9, 0).fits(), 1);
        x.forget();
        Due.due("fits(), 0 9, of what is cut off", Due.sees(x, 0, 9).fits(), 1);
        x.forget();
        x.cuts(1);
        Due.due("fits(), FOUND ones do not LIE", x.fits(), 1 + 8 + 16);
        x.does(1);
        Due.due("fits(), nor DONE ones", x.fits(), 1 + 8 + 16);
        Due.years(x, 7);
        Due.due("fits(), nor LOST ones", x.fits(), 1);
        Due.due("fits(), 1, where none begins so", Due.sees(x, 1).fits(), 0);
    }

    private static void likely() {
        Due.sentence("LIKELY: the WORD that is next (LEFT NOW) in most of these, of several the lowest; NONE (no next WORD).");
        Due.due("likely() of nothing", new MossPromises().likely(), Due.NONE);
        MossPromises x = Due.told("a2;s27;p9 9;m0 0 0 1 9 1 9;m0 1 0 1 9 1 0;m0 2 0 1 9 1 9;m0 3 0 1 9 2 0;m0 4 0 1 9 3;");
        Due.due("likely(), nothing SEEN", x.likely(), 1);
        Due.due("likely(), 9 twice, 0 once", Due.sees(x, 1).likely(), 9);
        x.cuts(0);
        Due.due("likely(), 9 and 0 once each", x.likely(), 0);
        x.cuts(1);
        Due.due("likely(), 9 once", x.likely(), 9);
        x.year();
        Due.due("likely(), 9 is LEFT yet", x.likely(), 9);
        x.year();
        Due.due("fits(), it is not LEFT", x.fits(), 4);
        Due.due("likely(), it is not LEFT", x.likely(), Due.NONE);
        x.forget();
        Due.due("likely(), no more WORDS", Due.sees(x, 3).likely(), Due.NONE);
        x.forget();
        Due.due("likely(), none fits", Due.sees(x, 4).likely(), Due.NONE);
        MossPromises four = Due.told("p9 9;m0 0 0 1 9 1 2 3 4;");
        Due.due("likely(), the fourth", Due.sees(four, 1, 2, 3).likely(), 4);
        Due.due("likely(), behind the fourth", Due.sees(four, 4).likely(), Due.NONE);
    }

    // ---- which, when

    private static void kept() {
        Due.sentence("no two of which CLASH, none with a DONE one, that of most WORDS LEFT together, of several the least bits");
        MossPromises x = Due.told("p9 9;m0 0 0 1 9 1 2;m0 0 0 1 9 1 2 3;m0 0 0 1 9 1;m0 0 1 1 9 1 2 3 4;m0 0 0 1 9 1;x0 1;x1 2;x3 4;");
        row("kept(..), none FOUND", x::kept, 0, 0);
        x.cuts(0);
        row("kept(..): 1 4, or 0 2 4", x::kept, 2 + 16, 4);
        x.does(0);
        row("kept(..), 0 DONE", x::kept, 4 + 16, 2);
        x.cuts(0);
        row("kept(..): 3 against 4", x::kept, 4 + 8, 5);
        x.does(4);
        row("kept(..), 4 DONE", x::kept, 4, 1);
        x.does(2);
        row("kept(..), all others clash", x::kept, 0, 0);
        MossPromises several = Due.told("p9 9;m0 0 0 1 9 1 2;m0 0 0 1 9 1 2;m0 0 0 1 9 1;m0 0 0 1 9 1;x0 1;x2 3;");
        several.cuts(0);
        row("kept(..), of four the least", several::kept, 1 + 4, 3);
        MossPromises fewer = Due.told("p9 9;m0 0 0 1 9 1;m0 0 0 1 9 1;m0 0 0 1 9 1 2;x0 2;x1 2;");
        fewer.cuts(0);
        row("kept(..), two of one WORD, or one of two", fewer::kept, 3, 2);
        MossPromises all = Due.told(EIGHT_FOUND);
        all.cuts(0);
        row("kept(..), all", all::kept, 255, 32);
        MossPromises shorter = Due.told("a1;s27;p9 9;m0 0 0 1 9 1 2 3 4;m0 1 0 1 9 1 2;x0 1;");
        shorter.cuts(1);
        Due.years(shorter, 3).cuts(0);
        row("kept(..), of what is LEFT", shorter::kept, 2, 2);
        Due.sentence("KEPT: which (what = 0, bits), how many WORDS (1). BAD.");
        bad("kept(..)", x::kept, -1, 2);
    }

    private static void order() {
        Due.sentence("from THE YEAR on, so that none ends later than DUE");
        MossPromises x = Due.told("p9 9;m0 0 0 9 9 1;");
        x.cuts(0);
        Due.due("order(-1), just in time", x.order(-1), 1);
        Due.due("order(0)", x.order(0), 0);
        x.year();
        Due.due("order(-1), a YEAR too late", x.order(-1), 0);
        Due.due("order(0)", x.order(0), Due.NONE);
        MossPromises two = Due.told("p9 9;m0 0 0 2 5 1;m0 0 0 3 3 1;x0 1;m0 0 1 1 0 1;m0 1 0 1 9 1;");
        two.cuts(0);
        Due.due("order(-1): the earlier DUE first, though they CLASH", two.order(-1), 2);
        Due.due("order(0)", two.order(0), 1);
        Due.due("order(1)", two.order(1), 0);
        Due.due("order(2)", two.order(2), Due.NONE);
        two.cuts(0);
        Due.due("order(-1): one that is DUE in THE YEAR can't be done", two.order(-1), 2);
        two.does(1);
        Due.due("order(-1), 1 DONE: its SPAN is not taken", two.order(-1), 1);
        Due.due("order(0)", two.order(0), 0);
        Due.sentence("that of most PROMISES, of several the least bits");
        MossPromises most = Due.told("p9 9;m0 0 0 9 9 1 2 3 4;m0 0 0 4 9 1;m0 0 0 5 9 1;m0 0 0 4 9 1;m0 0 0 5 9 1;");
        most.cuts(0);
        Due.due("order(-1)", most.order(-1), 2);
        Due.due("order(0)", most.order(0), 1);
        Due.due("order(1)", most.order(1), 2);
        Due.sentence("how many; the k-th by DUE, of like ones by numbers; NONE.");
        MossPromises dues = Due.told("p9 9;m0 0 0 1 9 1;m0 0 0 1 3 1;m0 0 0 1 3 1;m0 0 0 1 9 1;m0 0 0 1 99 1;m0 0 0 1 8 1;");
        dues.cuts(0);
        row("order(..)", dues::order, 1, 2, 5, 0, 3, 4, Due.NONE, Due.NONE);
    }

    private static void orderOfEight() {
        Due.sentence("ORDER: how many (k = -1; 0: none), the k-th; NONE: not so many. BAD (below -1, above 7).");
        MossPromises x = Due.told(EIGHT_FOUND);
        Due.due("order(-1), none FOUND", x.order(-1), 0);
        row("order(..), none FOUND", x::order, -9, -9, -9, -9, -9, -9, -9, -9);
        x.cuts(0);
        Due.due("order(-1), all eight just in time", x.order(-1), 8);
        row("order(..)", x::order, 0, 1, 2, 3, 4, 5, 6, 7);
        for (int k : new int[] {Integer.MIN_VALUE, -33, -2, 8, 31, 32, Integer.MAX_VALUE}) {
            Due.due("order(" + k + ")", x.order(k), Due.BAD);
        }
        x.year();
        Due.due("order(-1), a YEAR later", x.order(-1), 7);
        row("order(..), the least bits", x::order, 0, 1, 2, 3, 4, 5, 6, Due.NONE);
        MossPromises none = new MossPromises();
        Due.due("order(-1) of nothing", none.order(-1), 0);
        Due.due("order(0) of nothing", none.order(0), Due.NONE);
        Due.due("order(7) of nothing", none.order(7), Due.NONE);
        Due.due("order(8) of nothing", none.order(8), Due.BAD);
    }

    private static void slides() {
        Due.sentence("SLIDES of a CELL: behind how many YEARS (1 .. 50) it slides first");
        MossPromises soon = Due.told("s1;");
        row("s 1, slides(..)", c -> soon.cell(c, 3), 1, 1, 1, 1, 1, 1);
        MossPromises x = Due.told("s2;");
        row("s 2, slides(..)", c -> x.cell(c, 3), 1, 1, 1, 1, 1, 1);
        MossPromises three = Due.told("s3;");
        row("s 3, slides(..)", c -> three.cell(c, 3), 2, 1, 1, 1, 1, 2);
        MossPromises never = Due.told("s27;");
        row("s 27, slides(..)", c -> never.cell(c, 3), Due.NONE, 9, 9, 9, 9, Due.NONE);
        MossPromises late = Due.years(Due.told("s26;"), 4);
        late.drains(3);
        Due.years(late, 2);
        Due.due("s 26, in 51 years", late.cell(2, 3), Due.NONE);
        late.year();
        Due.due("s 26, in 50 years", late.cell(2, 3), 50);
        Due.sentence("(past YEAR 999, too; DRAIN, LEFT likewise); NONE.");
        // 999 lies behind the 512th call, where the document leaves answers free: the program keeps to it all the same
        MossPromises old = Due.years(Due.told("s27;a20;p99 9;m0 0 0 1 9 1 2 3 4;"), 999);
        Due.due("in YEAR 999 all within are dry", old.cell(1, 1), 0);
        row("in YEAR 999, slides(..)", c -> old.cell(c, 3), Due.NONE, 9, 9, 9, 9, Due.NONE);
        Due.due("drain(8)", old.drain(8), 0);
        Due.due("left(0, 99)", old.left(0, 99), 1);
        Due.due("year()", old.year(), Due.STATE);
    }

    private static void drain() {
        Due.sentence("DRAIN by n (0 .. 20): the fewest CELLS");
        MossPromises soon = Due.told("s1;");
        Due.due("s 1: drain(0)", soon.drain(0), 0);
        Due.due("s 1: drain(1)", soon.drain(1), Due.NONE);
        MossPromises late = Due.told("s27;");
        Due.due("s 27: drain(8)", late.drain(8), 0);
        Due.due("s 27: drain(9): from dry they slide in the 9th", late.drain(9), Due.NONE);
        Due.due("s 27: drain(20)", late.drain(20), Due.NONE);
        bad("drain(..)", late::drain, -1, 21);
        Due.years(late, 8);
        Due.due("s 27, in 8: drain(0)", late.drain(0), 0);
        Due.due("s 27, in 8: drain(1)", late.drain(1), 9);
        Due.due("s 27, in 8: drain(9)", late.drain(9), Due.NONE);
        Due.sentence("(bits; of as few the least) such that, were these WET 0 NOW, none slides in n YEARS; NONE.");
        MossPromises three = Due.years(new MossPromises(), 3);
        Due.due("drain(1): two of six", three.drain(1), 9);
        Due.due("drain(2)", three.drain(2), 27);
        Due.due("drain(3): all", three.drain(3), 63);
        Due.due("drain(4)", three.drain(4), Due.NONE);
        Due.due("drain(1): at the ends", wetAtTheEnds().drain(1), 33);
    }

    /** SLIDE 10, WET 7 0 1 1 0 7: the next year 8 1 2 2 1 8, and 1 and 4 slide (11) unless the ends are drained. */
    private static MossPromises wetAtTheEnds() {
        MossPromises x = Due.told("s10;");
        for (int year = 1; year <= 7; year++) {
            x.year();
            x.drains(1);
            x.drains(4);
            if (year < 7) {
                x.drains(2);
                x.drains(3);
            }
        }
        row("wet", c -> x.cell(c, 1), 7, 0, 1, 1, 0, 7);
        return x;
    }

    private static void odds() {
        Due.sentence("ODDS by x (0 .. 10), n (0 .. 6), k (0 .. 6)");
        MossPromises x = new MossPromises();
        fraction(0, 6, 1, 0, 1);
        fraction(0, 6, 0, 1, 1);
        fraction(10, 6, 6, 1, 1);
        fraction(10, 0, 0, 1, 1);
        fraction(10, 0, 1, 0, 1);
        fraction(10, 5, 6, 0, 1);
        fraction(0, 0, 0, 1, 1);
        fraction(0, 0, 6, 0, 1);
        bad("odds(.., 0, 0, 0)", n -> x.odds(n, 0, 0, 0), -1, 11);
        bad("odds(0, .., 0, 0)", n -> x.odds(0, n, 0, 0), -1, 7);
        bad("odds(0, 0, .., 0)", n -> x.odds(0, 0, n, 0), -1, 7);
        Due.sentence("ODDS: upper (what = 0), lower number (1), in least terms. BAD.");
        bad("odds(0, 0, 0, ..)", n -> x.odds(0, 0, 0, n), -1, 2);
        fraction(1, 6, 6, 1, 1000000);
        fraction(9, 6, 1, 999999, 1000000);
        fraction(5, 6, 3, 21, 32);
        fraction(5, 1, 1, 1, 2);
        fraction(2, 2, 1, 9, 25);
        fraction(7, 6, 0, 1, 1);
        fraction(4, 2, 2, 4, 25);
    }

    private static void fraction(int x, int n, int k, int upper, int lower) {
        MossPromises one = new MossPromises();
        String call = "odds(" + x + ", " + n + ", " + k;
        Due.due(call + ", 0)", one.odds(x, n, k, 0), upper);
        Due.due(call + ", 1)", one.odds(x, n, k, 1), lower);
    }

    // ---- kinds, images

    private static void kinds() {
        Due.sentence("WORD how many are LEFT NOW (1).");
        MossPromises x = Due.told("a20;s5;p9 9;m0 0 5 9 9 1 2 3 4;m0 2 3 9 9 1 2;m0 1 2 9 9 1;");
        rate(x, 0, 0, 4, 1);
        rate(x, 0, 2, 1, 1);
        MossPromises now = Due.years(Due.told("a3;s27;p9 9;m0 0 0 1 9 1 2 3 4;"), 2);
        rate(now, 0, 0, 4, 1);
        now.year();
        rate(now, 0, 0, 3, 1);
        Due.sentence("VOW up, and its DEPTH (10).");
        rate(x, 1, 0, 9, 11);
        Due.sentence("LOAN up less its SPAN (100).");
        rate(x, 2, 0, -5, 101);
        rate(x, 2, 2, -8, 101);
        Due.sentence("BRIDE twice up (asked once) (1000).");
        rate(x, 3, 0, 18, 1011);
        Due.sentence("OAK up, and its number (10000).");
        rate(x, 4, 0, -5, 10101);
        rate(x, 4, 2, -6, 10101);
        Due.sentence("THUMB up, and THE YEAR (100000).");
        rate(x, 5, 0, 4, 100001);
        Due.years(x, 2);
        rate(x, 5, 0, 6, 100001);
        Due.due("now(4)", x.now(4), 6);
        rate(x, 0, 1, 0, 1);
        rate(x, 2, 1, -9, 101);
        rate(x, 4, 1, -8, 10101);
        Due.sentence("What is BAD, where a number may be below 0.");
        for (int kind : new int[] {-1, 6, Integer.MIN_VALUE, Integer.MAX_VALUE}) {
            Due.due("rate(" + kind + ", 0)", x.rate(kind, 0), Due.NO);
        }
        for (int m : new int[] {-1, 3, 7, 8, Integer.MIN_VALUE, Integer.MAX_VALUE}) {
            for (int kind = 0; kind < 6; kind++) {
                Due.due("rate(" + kind + ", " + m + ")", x.rate(kind, m), Due.NO);
            }
        }
        Due.due("NO", MossPromises.NO, -1000000);
    }

    private static void rate(MossPromises x, int kind, int m, int want, long traced) {
        long ahead = x.trace();
        Due.due("rate(" + kind + ", " + m + ")", x.rate(kind, m), want);
        Due.due("trace() behind rate(" + kind + ", ..)", x.trace() - ahead, traced);
    }

    private static void trace() {
        Due.sentence("numbers in brackets are added to THE TRACE, 0 at first, as often as rate() asks that body: each once");
        MossPromises x = Due.told("p9 9;m0 0 0 1 9 1;");
        Due.due("trace() at first", x.trace(), 0);
        for (int i = 1; i <= 400; i++) {
            x.rate(5, 0);
        }
        Due.due("trace()", x.trace(), 400L * 100001);
        x.rate(-1, 0);
        x.rate(6, 0);
        x.rate(0, 1);
        x.rate(0, -1);
        Due.due("trace(), nothing for what is BAD", x.trace(), 400L * 100001);
        Due.sentence("THE TRACE goes on, as behind undo(), back().");
        x = Due.told("p9 9;m0 0 0 1 9 1;");
        x.keep(0);
        x.year();
        x.rate(0, 0);
        x.undo();
        Due.due("trace() behind undo()", x.trace(), 1);
        x.back(0);
        Due.due("trace() behind back()", x.trace(), 1);
        x.moss();
        Due.due("trace() behind moss()", x.trace(), 1);
    }

    private static void images() {
        Due.sentence("IMAGES 0, 1 keep NOW");
        MossPromises x = Due.told("s27;a20;p9 9;m0 0 0 1 9 1 2 3 4;m0 0 1 1 9 1 2 3 4;m0 1 0 1 9 1;m0 2 0 1 9 1;");
        bad("keep(..)", x::keep, -1, 2);
        bad("back(..)", x::back, -1, 2);
        Due.sentence("All of that becomes as an IMAGE has it: THE YEAR. BAD; STATE: none was kept.");
        Due.due("back(0), none kept", x.back(0), Due.STATE);
        Due.due("back(1), none kept", x.back(1), Due.STATE);
        Due.due("keep(1)", x.keep(1), 0);
        Due.due("back(0), just 1 kept", x.back(0), Due.STATE);
        Due.years(x, 3).drains(0);
        x.cuts(0);
        x.does(0);
        x.cuts(1);
        Due.years(x, 6);
        row("now(..)", x::now, 9, 2, 4, 1, 8, 10);
        Due.due("keep(0)", x.keep(0), 9);
        Due.due("back(1)", x.back(1), 0);
        row("now(..)", x::now, 0, 15, 0, 0, 0, 0);
        row("cell(0, ..)", what -> x.cell(0, what), 0, 0, 3);
        Due.due("left(1, 0)", x.left(1, 0), 4);
        Due.due("back(0)", x.back(0), 9);
        row("now(..)", x::now, 9, 2, 4, 1, 8, 0);
        row("cell(0, ..)", what -> x.cell(0, what), 1, 6, 2);
        Due.due("left(0, 99), FOUND", x.left(0, 99), 3);
        Due.due("left(1, 0), DRIED", x.left(1, 0), 3);
        // an image stays as it was kept, whatever is done behind back()
        x.year();
        x.cuts(0);
        Due.due("back(0) again", x.back(0), 9);
        row("now(..)", x::now, 9, 2, 4, 1, 8, 0);
        Due.due("keep(1), kept anew", x.keep(1), 9);
        Due.due("back(1)", x.back(1), 9);
        // FOUND sooner in one image, later in the other: each has its own LEFT
        MossPromises y = Due.told("a10;s27;p9 9;m0 0 0 1 9 1 2 3 4;");
        y.keep(0);
        y.cuts(0);
        y.keep(1);
        y.back(0);
        Due.years(y, 20).cuts(0);
        Due.due("left(0, 0), FOUND in YEAR 20", y.left(0, 0), 2);
        y.keep(0);
        y.back(1);
        Due.due("left(0, 0), FOUND in YEAR 0", y.left(0, 0), 4);
        y.back(0);
        Due.due("left(0, 0), FOUND in YEAR 20", y.left(0, 0), 2);
    }

    private static void imagesKeepNothingElse() {
        Due.sentence("nothing else (nothing can be UNDONE behind back())");
        MossPromises x = Due.told("p9 9;m0 0 0 1 9 1;");
        Due.sees(x, 1);
        x.type('a');
        x.keep(0);
        Due.sees(x, 2);
        x.type('1');
        x.year();
        Due.due("back(0)", x.back(0), 0);
        Due.due("count(4)", x.count(4), 2);
        Due.due("count(5)", x.count(5), 2);
        Due.due("undo() behind back()", x.undo(), Due.STATE);
        x.year();
        Due.due("back(1), refused", x.back(1), Due.STATE);
        Due.due("back(2), refused", x.back(2), Due.BAD);
        Due.due("undo() behind a refused back()", x.undo(), 0);
        x.year();
        Due.sentence("An IMAGE is kept: THE YEAR. BAD.");
        Due.due("keep(0)", x.keep(0), 1);
        Due.due("keep(1)", x.keep(1), 1);
        Due.due("undo() behind keep()", x.undo(), 0);
        Due.due("back(0), kept anew", x.back(0), 1);
    }

    private static void count() {
        Due.sentence("0 PERSONS, 1 PROMISES, 2 ACID, 3 SLIDE, 4 SEEN, 5 letters of THE TEXT. BAD.");
        MossPromises none = new MossPromises();
        row("count(..)", none::count, 0, 0, 10, 12, 0, 0);
        MossPromises x = Due.told("a20;s27;" + Due.times("p9 9;", 6) + Due.times("m0 0 0 1 9 1;", 8));
        Due.sees(x, 1, 2, 3, 4);
        Due.type(x, Due.times("q", 200));
        row("count(..)", x::count, 6, 8, 20, 27, 4, 200);
        bad("count(..)", x::count, -1, 6);
    }

    public static void main(String[] args) {
        person();
        promise();
        word();
        cell();
        now();
        nothingIsChangedByAsking();
        left();
        lasts();
        duty();
        seen();
        fits();
        likely();
        kept();
        order();
        orderOfEight();
        slides();
        drain();
        odds();
        kinds();
        trace();
        images();
        imagesKeepNothingElse();
        count();
        Due.end();
    }
}
