import java.util.Arrays;

/** The edges of what is done: a test for each sentence of the document's part 2, and of promises 10 to 14. */
public final class EdgesOfDoings {

    private static void wets(String when, MossPromises x, int... want) {
        for (int c = 0; c < 6; c++) {
            Due.due(when + ": cell(" + c + ", 1)", x.cell(c, 1), want[c]);
        }
    }

    // ---- at first

    private static void atFirst() {
        Due.sentence("THE YEAR is 0 at first (999 at most)");
        MossPromises x = new MossPromises();
        Due.due("now(0)", x.now(0), 0);
        Due.years(x, 300);
        Due.due("now(0), as far as calls go", x.now(0), 300);
        Due.sentence("all PROMISES LIE in their CELLS, CELLS are CUT 0 deep, WET 0.");
        x = Due.told("p9 9;m0 0 0 1 9 1;m0 5 5 1 9 1;m0 5 0 1 9 1;");
        Due.due("now(1)", x.now(1), 7);
        Due.due("cell(0, 2)", x.cell(0, 2), 1);
        Due.due("cell(4, 2)", x.cell(4, 2), 0);
        Due.due("cell(5, 2)", x.cell(5, 2), 6);
        for (int c = 0; c < 6; c++) {
            Due.due("cell(" + c + ", 0)", x.cell(c, 0), 0);
            Due.due("cell(" + c + ", 1)", x.cell(c, 1), 0);
        }
    }

    // ---- LEFT

    private static void leftIsCut() {
        Due.sentence("less YEAR times (DEPTH and 1) by ACID, cut,");
        MossPromises x = Due.told("p9 9;m0 0 0 1 9 1 2 3 4;m0 0 5 1 9 1 2 3 4;");
        int[][] depth0 = {{0, 4}, {9, 4}, {10, 3}, {19, 3}, {20, 2}, {29, 2}, {30, 1}};
        int[][] depth5 = {{1, 4}, {2, 3}, {3, 3}, {4, 2}, {5, 1}};
        for (int[] d : depth0) {
            Due.due("left(0, " + d[0] + ")", x.left(0, d[0]), d[1]);
        }
        for (int[] d : depth5) {
            Due.due("left(1, " + d[0] + ")", x.left(1, d[0]), d[1]);
        }
        x = Due.told("a20;p9 9;m0 0 0 1 9 1 2;m0 0 1 1 9 1 2;");
        Due.due("ACID 20: left(0, 19)", x.left(0, 19), 2);
        Due.due("ACID 20: left(0, 20)", x.left(0, 20), 1);
        Due.due("ACID 20: left(1, 9)", x.left(1, 9), 2);
        Due.due("ACID 20: left(1, 10)", x.left(1, 10), 1);
    }

    private static void oneAtLeast() {
        Due.sentence("less how often it was DRIED; 1 at least");
        MossPromises x = Due.told("a1;s27;p9 9;m0 0 5 1 9 3 2 1 0;m0 1 0 1 9 8;");
        Due.due("left(0, 0)", x.left(0, 0), 4);
        Due.due("left(1, 0)", x.left(1, 0), 1);
        Due.due("left(0, 1)", x.left(0, 1), 1);
        Due.due("left(0, 99)", x.left(0, 99), 1);
        Due.due("left(1, 99)", x.left(1, 99), 1);
        x.year();
        x.drains(0);
        Due.due("left(0, 0), DRIED, too", x.left(0, 0), 1);
        Due.due("word(0, 0): the first is what is left", x.word(0, 0), 3);
        Due.due("word(0, 1)", x.word(0, 1), Due.NONE);
        x = Due.told("a20;s27;p9 9;m0 0 0 1 9 1 2 3 4;");
        int[] left = {3, 2, 1, 1};
        for (int want : left) {
            x.year();
            x.drains(0);
            Due.due("left(0, 0), once more DRIED", x.left(0, 0), want);
        }
    }

    // ---- cuts

    private static void cutSixDeep() {
        Due.sentence("CUT: a CELL is 1 deeper (6 at most)");
        MossPromises x = new MossPromises();
        for (int depth = 1; depth <= 6; depth++) {
            Due.due("cuts(5)", x.cuts(5), 0);
            Due.due("cell(5, 0)", x.cell(5, 0), depth);
            Due.due("cell(4, 0)", x.cell(4, 0), 0);
        }
        Due.sentence("CUT: how many are FOUND by it. BAD; STATE: it is 6 deep.");
        Due.due("cuts(5), 6 deep", x.cuts(5), Due.STATE);
        Due.due("cell(5, 0)", x.cell(5, 0), 6);
        Due.due("now(5)", x.now(5), 6);
        Due.due("cuts(4)", x.cuts(4), 0);
        Due.due("cuts(-1)", x.cuts(-1), Due.BAD);
        Due.due("cuts(6)", x.cuts(6), Due.BAD);
        for (int far : Due.FAR) {
            Due.due("cuts(" + far + ")", x.cuts(far), Due.BAD);
        }
        Due.due("now(5)", x.now(5), 7);
        x.undo();
        x.undo();
        Due.due("cuts(5), 6 deep again", x.cuts(5), 0);
        Due.due("cuts(5), 6 deep again", x.cuts(5), Due.STATE);
    }

    private static void foundByDepth() {
        Due.sentence("PROMISES that LIE there, whose DEPTH is as it was CUT till then, are FOUND");
        StringBuilder text = new StringBuilder("p9 9;");
        for (int depth = 0; depth <= 5; depth++) {
            text.append("m0 3 ").append(depth).append(" 1 9 1;");
        }
        MossPromises x = Due.told(text + "m0 2 0 1 9 1;m0 4 0 1 9 1;");
        for (int depth = 0; depth <= 5; depth++) {
            Due.due("cuts(3)", x.cuts(3), 1);
            Due.due("now(2)", x.now(2), (2 << depth) - 1);
        }
        Due.due("now(1): those beside it LIE", x.now(1), 64 + 128);
        x = Due.told("p9 9;" + Due.times("m0 0 0 1 9 1;", 8));
        Due.due("cuts(0), all", x.cuts(0), 8);
        Due.due("cuts(0), none is left", x.cuts(0), 0);
        x = Due.told("s2;p9 9;m0 0 0 1 9 1;");
        x.year();
        Due.due("now(4)", x.now(4), 1);
        Due.due("cuts(0): a LOST one is not FOUND", x.cuts(0), 0);
        Due.due("now(4)", x.now(4), 1);
        x = Due.told("p9 9;m0 0 0 1 9 1;");
        x.cuts(0);
        x.does(0);
        x.undo();
        x.undo();
        Due.due("cuts(0), where it LIES again", x.cuts(0), 1);
    }

    private static void leftStays() {
        Due.sentence("LEFT stays as it is then.");
        MossPromises x = Due.told("a1;s27;p9 9;m0 0 0 1 9 1 2 3 4;m0 0 1 1 9 1 2 3 4;m0 0 5 1 9 1 2 3 4;");
        x.cuts(0);
        x.year();
        x.cuts(0);
        Due.due("left(0, 99), FOUND in YEAR 0", x.left(0, 99), 4);
        Due.due("left(1, 99), FOUND in YEAR 1", x.left(1, 99), 2);
        Due.years(x, 5).drains(0);
        Due.due("left(0, 0), years behind", x.left(0, 0), 4);
        Due.due("left(1, 0), drained behind", x.left(1, 0), 2);
        Due.due("word(1, 1)", x.word(1, 1), 2);
        Due.due("word(1, 2)", x.word(1, 2), Due.NONE);
        x.does(0);
        Due.due("left(0, 99), DONE", x.left(0, 99), 4);
        x = Due.told("a20;s27;p9 9;m0 0 0 1 9 1 2 3 4;");
        x.year();
        x.drains(0);
        x.cuts(0);
        Due.due("left(0, 0), DRIED ahead of FOUND", x.left(0, 0), 3);
    }

    // ---- drains

    private static void drainsWhatIsWet() {
        Due.sentence("DRAINED: a CELL that is WET: WET 0");
        MossPromises x = Due.told("s27;");
        Due.due("drains(0), WET 0", x.drains(0), Due.STATE);
        x.year();
        Due.due("drains(0), WET 1", x.drains(0), 1);
        wets("drained", x, 0, 1, 1, 1, 1, 1);
        Due.sentence("DRAINED: how WET it was. BAD; STATE: 0.");
        Due.due("drains(0), WET 0 again", x.drains(0), Due.STATE);
        Due.years(x, 10);
        Due.due("drains(5), most WET", x.drains(5), 9);
        Due.due("cell(5, 1)", x.cell(5, 1), 0);
        Due.due("drains(-1)", x.drains(-1), Due.BAD);
        Due.due("drains(6)", x.drains(6), Due.BAD);
        for (int far : Due.FAR) {
            Due.due("drains(" + far + ")", x.drains(far), Due.BAD);
        }
        x = Due.told("s2;");
        x.year();
        Due.due("drains(0), dry by sliding", x.drains(0), Due.STATE);
    }

    private static void driedOnceMore() {
        Due.sentence("each PROMISE that LIES there is DRIED once more (9 at most)");
        MossPromises x = Due.told("a20;s27;p9 9;m0 2 0 1 9 1 2 3 4;m0 2 5 1 9 1 2 3;m0 3 0 1 9 1 2 3 4;m0 2 0 1 9 1 2 3 4;");
        x.year();
        x.drains(2);
        Due.due("left(0, 0)", x.left(0, 0), 3);
        Due.due("left(1, 0)", x.left(1, 0), 2);
        Due.due("left(2, 0), beside it", x.left(2, 0), 4);
        x.drains(2);
        Due.due("left(0, 0), a refused one", x.left(0, 0), 3);
        x.cuts(2);
        x.year();
        x.drains(2);
        Due.due("left(0, 0), FOUND", x.left(0, 0), 3);
        Due.due("left(1, 0), still there", x.left(1, 0), 1);
        // more often than 9 times: a promise has 4 words at most, so that just "1 at least" can be seen
        x = Due.told("a20;s27;p9 9;m0 2 0 1 9 1 2 3 4;");
        for (int i = 0; i < 12; i++) {
            x.year();
            Due.due("drains(2)", x.drains(2), 1);
        }
        Due.due("left(0, 0)", x.left(0, 0), 1);
        for (int i = 0; i < 10; i++) {
            x.undo();
        }
        Due.due("left(0, 0), DRIED 7 times", x.left(0, 0), 1);
    }

    // ---- does

    private static void doesWhatIsFound() {
        Due.sentence("DONE: a PROMISE that is FOUND, with no CLASH to one that is DONE.");
        MossPromises x = Due.told("p9 9;m0 0 0 1 9 1;m0 0 0 1 9 1;m0 0 0 1 9 1;m0 1 0 1 9 1;x0 1;x1 2;x2 3;");
        Due.due("does(0), it LIES", x.does(0), Due.STATE);
        x.cuts(0);
        Due.due("does(2): the one that it clashes with is not DONE, or LIES", x.does(2), 1);
        Due.due("does(1): clashes with 2", x.does(1), Due.STATE);
        Due.due("does(0): clashes with 1 alone", x.does(0), 2);
        Due.sentence("DONE: how many are. BAD; STATE: it is not FOUND, CLASHES with one that is DONE.");
        Due.due("does(0), DONE", x.does(0), Due.STATE);
        x.cuts(1);
        Due.due("does(3): clashes with 2", x.does(3), Due.STATE);
        Due.due("does(-1)", x.does(-1), Due.BAD);
        Due.due("does(4)", x.does(4), Due.BAD);
        for (int far : Due.FAR) {
            Due.due("does(" + far + ")", x.does(far), Due.BAD);
        }
        Due.due("now(3)", x.now(3), 5);
        x.undo();
        x.undo();
        x.undo();
        Due.due("does(1), 2 is undone", x.does(1), 1);
        x = Due.told("s2;p9 9;m0 0 0 1 9 1;");
        x.year();
        Due.due("does(0), LOST", x.does(0), Due.STATE);
        x = Due.told("p9 9;" + Due.times("m0 0 0 1 9 1;", 8));
        x.cuts(0);
        for (int m = 0; m < 8; m++) {
            Due.due("does(" + m + ")", x.does(m), m + 1);
        }
    }

    // ---- year

    private static void nineWetAtMost() {
        Due.sentence("A YEAR goes by: each CELL is 1 more WET (9 at most)");
        MossPromises x = Due.told("s27;");
        Due.years(x, 8);
        wets("8 years", x, 8, 8, 8, 8, 8, 8);
        x.year();
        wets("9 years", x, 9, 0, 0, 0, 0, 9);
        x.year();
        wets("10 years", x, 9, 1, 1, 1, 1, 9);
        // were 0 and 5 more than 9 WET, 1 and 4 would slide ahead of the 9th year from there
        Due.years(x, 7);
        wets("17 years", x, 9, 8, 8, 8, 8, 9);
        Due.due("year()", x.year(), 0);
        wets("18 years", x, 9, 0, 0, 0, 0, 9);
    }

    private static void slidesOrMore() {
        Due.sentence("then each CELL that is, together with those beside it, SLIDE or more WET");
        MossPromises x = Due.told("s3;");
        x.year();
        wets("s 3, just 3 within, 2 at the ends", x, 1, 0, 0, 0, 0, 1);
        x = Due.told("s4;");
        x.year();
        wets("s 4, 3 within", x, 1, 1, 1, 1, 1, 1);
        x.year();
        wets("s 4, just 4 at the ends, 6 within", x, 0, 0, 0, 0, 0, 0);
        x = Due.told("s5;");
        Due.years(x, 2);
        wets("s 5, 4 at the ends, 6 within", x, 2, 0, 0, 0, 0, 2);
        x = Due.told("s1;");
        x.year();
        wets("s 1", x, 0, 0, 0, 0, 0, 0);
        x = new MossPromises();
        Due.years(x, 3);
        wets("s 12, 9 within", x, 3, 3, 3, 3, 3, 3);
        x.year();
        wets("s 12, just 12 within", x, 4, 0, 0, 0, 0, 4);
    }

    private static void foundAheadOfAnySliding() {
        Due.sentence("(all as they are by then, found for all CELLS ahead of any sliding) slides");
        MossPromises x = Due.told("s3;p9 9;m0 0 0 1 9 1;m0 1 0 1 9 1;m0 2 0 1 9 1;m0 3 0 1 9 1;m0 4 0 1 9 1;m0 5 0 1 9 1;");
        Due.due("year(): four side by side", x.year(), 4);
        Due.due("now(4)", x.now(4), 30);
        Due.due("now(1)", x.now(1), 33);
        Due.sentence("PROMISES that LIE there are LOST, it is WET 0.");
        x = Due.told("s3;p9 9;m0 1 0 1 9 1;m0 1 0 1 9 1;m0 1 5 1 9 1;m0 1 1 1 9 1;m0 0 0 1 9 1;");
        x.cuts(1);
        x.does(1);
        Due.due("year(): two LIE", x.year(), 2);
        Due.due("now(2)", x.now(2), 1);
        Due.due("now(3)", x.now(3), 2);
        Due.due("now(4)", x.now(4), 12);
        Due.due("cell(1, 1)", x.cell(1, 1), 0);
        Due.due("cell(1, 2)", x.cell(1, 2), 0);
        Due.due("cell(1, 0): still cut", x.cell(1, 0), 1);
        Due.due("left(2, 0), LOST", x.left(2, 0), 0);
        Due.due("year(): 0 and 1 slide, what is LOST is not LOST again", x.year(), 1);
    }

    private static void yearAnswers() {
        Due.sentence("A YEAR: how many PROMISES are LOST in it. STATE: it is 999.");
        MossPromises x = Due.told("s1;p9 9;" + Due.times("m0 0 0 1 9 1;", 4) + Due.times("m0 5 5 1 9 1;", 4));
        Due.due("year(): all", x.year(), 8);
        Due.due("year(): none is left", x.year(), 0);
        // 999 lies behind the 512th call, where the document leaves answers free: the program keeps to it all the same
        x = Due.years(new MossPromises(), 998);
        Due.due("year() in 998", x.year(), 0);
        Due.due("year() in 999", x.year(), Due.STATE);
        Due.due("now(0)", x.now(0), 999);
        Due.due("undo()", x.undo(), 9);
        Due.due("now(0)", x.now(0), 998);
    }

    // ---- undo

    private static void tenAreKnown() {
        Due.sentence("that was not refused (10 are known, older ones are lost)");
        MossPromises x = new MossPromises();
        for (int i = 1; i <= 12; i++) {
            x.year();
            Due.due("now(5)", x.now(5), Math.min(i, 10));
        }
        for (int i = 9; i >= 0; i--) {
            Due.due("undo()", x.undo(), i);
            Due.due("now(0)", x.now(0), 2 + i);
        }
        Due.due("undo(), older ones", x.undo(), Due.STATE);
        Due.due("now(0)", x.now(0), 2);
        x = Due.years(new MossPromises(), 10);
        for (int i = 0; i < 10; i++) {
            x.undo();
        }
        Due.due("now(0), just 10", x.now(0), 0);
    }

    private static void knownBehindUndoing() {
        Due.sentence("UNDONE: the latest cuts(), drains(), does(), year()");
        MossPromises x = Due.told("s27;p9 9;m0 0 0 1 9 1 2 3;m0 0 1 1 9 1 2 3;");
        x.year();
        x.drains(0);
        x.cuts(0);
        x.does(0);
        Due.due("undo() of does()", x.undo(), 3);
        Due.due("now(2)", x.now(2), 1);
        Due.due("undo() of cuts()", x.undo(), 2);
        Due.due("now(1)", x.now(1), 3);
        Due.due("cell(0, 0)", x.cell(0, 0), 0);
        Due.due("undo() of drains()", x.undo(), 1);
        Due.due("left(1, 0)", x.left(1, 0), 3);
        Due.due("cell(0, 1)", x.cell(0, 1), 1);
        Due.due("undo() of year()", x.undo(), 0);
        Due.due("now(0)", x.now(0), 0);
        Due.due("cell(0, 1)", x.cell(0, 1), 0);
        // what was undone is forgotten: the next doing takes its place, around the tenth, too
        Due.years(x, 14);
        for (int i = 0; i < 7; i++) {
            x.undo();
        }
        Due.due("now(0)", x.now(0), 7);
        x = Due.cuts(x, 3, 5);
        Due.due("now(5)", x.now(5), 8);
        for (int i = 4; i >= 0; i--) {
            x.undo();
            Due.due("cell(3, 0)", x.cell(3, 0), i);
            Due.due("now(0)", x.now(0), 7);
        }
        for (int i = 6; i >= 4; i--) {
            x.undo();
            Due.due("now(0)", x.now(0), i);
        }
        Due.due("undo()", x.undo(), Due.STATE);
    }

    private static void refusedOnesAreNotKnown() {
        Due.sentence("UNDONE: how many more may be. STATE: none.");
        MossPromises x = Due.told("p9 9;m0 0 0 1 9 1;");
        Due.due("undo()", x.undo(), Due.STATE);
        Due.cuts(x, 0, 6);
        x.does(0);
        int[] refused = {x.cuts(0), x.cuts(6), x.drains(0), x.drains(-1), x.does(0), x.does(1)};
        Due.due("refused ones", Arrays.stream(refused).sum(), 3 * Due.STATE + 3 * Due.BAD);
        Due.due("now(5)", x.now(5), 7);
        Due.due("undo() of does()", x.undo(), 6);
        Due.due("now(3)", x.now(3), 0);
        for (int i = 5; i >= 0; i--) {
            Due.due("undo()", x.undo(), i);
        }
        Due.due("undo()", x.undo(), Due.STATE);
        // what is not done to the moss is not undone
        Due.sees(x, 1).keep(0);
        x.type(';');
        x.rate(0, 0);
        Due.due("undo()", x.undo(), Due.STATE);
        x.year();
        x.forget();
        x.keep(1);
        Due.due("undo()", x.undo(), 0);
        Due.due("now(0)", x.now(0), 0);
        Due.due("count(4)", x.count(4), 0);
        Due.due("back(1): the image stays", x.back(1), 1);
    }

    public static void main(String[] args) {
        atFirst();
        leftIsCut();
        oneAtLeast();
        cutSixDeep();
        foundByDepth();
        leftStays();
        drainsWhatIsWet();
        driedOnceMore();
        doesWhatIsFound();
        nineWetAtMost();
        slidesOrMore();
        foundAheadOfAnySliding();
        yearAnswers();
        tenAreKnown();
        knownBehindUndoing();
        refusedOnesAreNotKnown();
        Due.end();
    }
}
