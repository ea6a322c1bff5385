/** For each promise of the document: ordinary inputs, its edges, wrong inputs. Answers are worked out by hand. */
public final class MossPromisesPromises {
    private static int wrong = 0;
    private static int promise = 0;

    private static void due(String call, long got, long want) {
        if (got != want) {
            wrong++;
            System.out.println("promise " + promise + ": " + call + " answered " + got + ", due is " + want);
        }
    }

    private static MossPromises type(MossPromises x, String text) {
        for (int i = 0; i < text.length(); i++) {
            x.type(text.charAt(i));
        }
        return x;
    }

    private static MossPromises told(String text) {
        MossPromises x = type(new MossPromises(), text);
        int items = 0;
        for (int i = 0; i < text.length(); i++) {
            items += text.charAt(i) == ';' ? 1 : 0;
        }
        due("moss() of " + text, x.moss(), items);
        return x;
    }

    private static void fault(String text, int place) {
        MossPromises x = type(new MossPromises(), text);
        due("moss() of " + text, x.moss(), -10 - place);
        due("count(5) behind " + text, x.count(5), text.length());
    }

    private static MossPromises years(MossPromises x, int n) {
        for (int i = 0; i < n; i++) {
            x.year();
        }
        return x;
    }

    private static void constants() {
        due("BAD", MossPromises.BAD, -1);
        due("STATE", MossPromises.STATE, -2);
        due("FULL", MossPromises.FULL, -3);
        due("NONE", MossPromises.NONE, -9);
        due("NO", MossPromises.NO, -1000000);
    }

    private static void aNewObject() {
        promise = 1;
        MossPromises x = new MossPromises();
        int[] counts = {0, 0, 10, 12, 0, 0};
        for (int what = 0; what < 6; what++) {
            due("count(" + what + ")", x.count(what), counts[what]);
            due("now(" + what + ")", x.now(what), 0);
        }
        for (int c = 0; c < 6; c++) {
            due("cell(c, 0)", x.cell(c, 0), 0);
            due("cell(c, 1)", x.cell(c, 1), 0);
            due("cell(c, 2)", x.cell(c, 2), 0);
        }
        due("person(0, 0)", x.person(0, 0), -1);
        due("promise(0, 0)", x.promise(0, 0), -1);
        due("undo()", x.undo(), -2);
        due("back(0)", x.back(0), -2);
        due("back(1)", x.back(1), -2);
        due("trace()", x.trace(), 0);
    }

    private static void type() {
        promise = 2;
        MossPromises x = new MossPromises();
        due("type(-1)", x.type(-1), -1);
        due("type(256)", x.type(256), -1);
        due("type(0)", x.type(0), 1);
        due("type(255)", x.type(255), 2);
        for (int i = 3; i <= 200; i++) {
            due("type(32)", x.type(32), i);
        }
        due("type(32)", x.type(32), -3);
        due("type(256) when full", x.type(256), -1);
        due("count(5)", x.count(5), 200);
    }

    private static void clear() {
        promise = 3;
        MossPromises x = type(new MossPromises(), "p1 9;");
        due("clear()", x.clear(), 5);
        due("clear()", x.clear(), 0);
        due("count(5)", x.count(5), 0);
        due("moss()", x.moss(), 0);
        due("count(0)", x.count(0), 0);
        x = told("p1 9;");
        type(x, "q");
        due("clear()", x.clear(), 1);
        due("count(0)", x.count(0), 1);
    }

    private static void moss() {
        promise = 4;
        told("");
        told("  ");
        told("a1;s1;");
        told("a20;s27;");
        told("p0 9;p99 0;p1 1;p2 2;p3 3;p4 9;");
        told(" p 1 9 ; m 0 0 0 1 0 0 ;  m0 5 5 9 99 9 9 9 9;x0 1;x 1 0;x0 1; ");
        told("p9 9;m0 0 0 1 0 0;m0 0 0 1 0 0;m0 0 0 1 0 0;m0 0 0 1 0 0;m0 0 0 1 0 0;m0 0 0 1 0 0;m0 0 0 1 0 0;"
            + "m0 0 0 1 0 0;x7 0;");
        faults();
        aFaultChangesNothing();
        readAnew();
    }

    private static void faults() {
        fault(";", 0);
        fault("  ;", 2);
        fault("5", 0);
        fault("q", 0);
        fault("P1 9;", 0);
        fault("p1\t9;", 2);
        fault("p1-9;", 2);
        fault("p", 1);
        fault("p ", 2);
        fault("p1", 2);
        fault("p1 9", 4);
        fault("p1 9  ", 6);
        fault("p;", 1);
        fault("pp", 1);
        fault("p19;", 3);
        fault("p1 9 9;", 5);
        fault("p1 9p", 4);
        fault("p100 9;", 1);
        fault("p 4294967297 9;", 2);
        fault("p01 9;", 1);
        fault("p00 9;", 1);
        fault("p1 09;", 3);
        fault("p1 0;", 3);
        fault("p1 9;p1 1;", 8);
        fault("p1 9;p1 10;", 8);
        fault("p1 9;p1 8;", 8);
        fault("p1 9;p1 9;p1 9;p1 9;p1 9;p1 9; p", 31);
        fault("p1 ?;q", 3);
        fault("p1 9;m1 0 0 1 0 0;", 6);
        fault("m0 0 0 1 0 0;", 1);
        fault("p1 9;m0 6 0 1 0 0;", 8);
        fault("p1 9;m0 0 6 1 0 0;", 10);
        fault("p1 9;m0 0 0 0 0 0;", 12);
        fault("p1 9;m0 0 0 10 0 0;", 12);
        fault("p1 9;m0 0 0 1 100 0;", 14);
        fault("p1 9;m0 0 0 1 0;", 15);
        fault("p1 9;m0 0 0 1 0 10;", 16);
        fault("p1 9;m0 0 0 1 0 1 10;", 18);
        fault("p1 9;m0 0 0 1 0 1 2 3 4 5;", 24);
        fault("p1 9;m0 0 0 1 0 1 2 3 4", 23);
        fault("p1 9;m0 0 0 1 0 1 2 3 4 m", 24);
        String nine = "p9 9;m0 0 0 1 0 0;m0 0 0 1 0 0;m0 0 0 1 0 0;m0 0 0 1 0 0;m0 0 0 1 0 0;m0 0 0 1 0 0;m0 0 0 1 0 0;"
            + "m0 0 0 1 0 0;m";
        fault(nine, nine.length() - 1);
        fault("x0 1;", 1);
        fault("p1 9;m0 0 0 1 0 0;x0 0;", 21);
        fault("p1 9;m0 0 0 1 0 0;x0 1;", 21);
        fault("p1 9;m0 0 0 1 0 0;m0 0 0 1 0 0;x0 1 1;", 36);
        fault("p1 9;m0 0 0 1 0 0;m0 0 0 1 0 0;x1 1;", 34);
        fault("p1 9;m0 0 0 1 0 0;m0 0 0 1 0 0;x2 1;", 32);
        fault("a0;", 1);
        fault("a21;", 1);
        fault("a1 1;", 3);
        fault("a1;a1;", 3);
        fault("a;", 1);
        fault("s0;", 1);
        fault("s28;", 1);
        fault("s1;s", 3);
        fault("s1 a", 3);
        StringBuilder full = new StringBuilder("a");
        for (int i = 1; i < 200; i++) {
            full.append(i % 2 == 0 ? '9' : '8');
        }
        fault(full.toString(), 1);
    }

    private static void aFaultChangesNothing() {
        MossPromises x = told("a3;s4;p1 9;m0 0 0 1 9 4 5;");
        x.sees(4);
        x.keep(0);
        x.year();
        type(x, "p9 9;p9 9;m1 1 1 2 2 1;a1;s1;?");
        due("moss()", x.moss(), -10 - 29);
        due("count(5)", x.count(5), 30);
        due("count(0)", x.count(0), 1);
        due("count(1)", x.count(1), 1);
        due("count(2)", x.count(2), 3);
        due("count(3)", x.count(3), 4);
        due("count(4)", x.count(4), 1);
        due("person(0, 0)", x.person(0, 0), 1);
        due("promise(0, 5)", x.promise(0, 5), 2);
        due("now(0)", x.now(0), 1);
        due("now(5)", x.now(5), 1);
        due("cell(0, 1)", x.cell(0, 1), 1);
        due("back(0)", x.back(0), 0);
    }

    private static void readAnew() {
        MossPromises x = told("a3;s1;p1 9;p1 9;m0 0 0 1 9 4 5;m1 5 2 1 9 4;x0 1;");
        x.rate(1, 0);
        x.cuts(0);
        x.does(0);
        x.keep(0);
        x.year();
        x.sees(1);
        type(x, "p7 9;m0 3 1 2 9 1 2 3;");
        due("moss()", x.moss(), 2);
        due("count(0)", x.count(0), 1);
        due("count(1)", x.count(1), 1);
        due("count(2)", x.count(2), 10);
        due("count(3)", x.count(3), 12);
        due("count(4)", x.count(4), 0);
        due("count(5)", x.count(5), 0);
        due("person(0, 0)", x.person(0, 0), 7);
        due("promise(0, 6)", x.promise(0, 6), 0);
        due("now(0)", x.now(0), 0);
        due("now(1)", x.now(1), 1);
        due("now(2)", x.now(2), 0);
        due("now(3)", x.now(3), 0);
        due("now(4)", x.now(4), 0);
        due("now(5)", x.now(5), 0);
        due("cell(0, 0)", x.cell(0, 0), 0);
        due("cell(0, 1)", x.cell(0, 1), 0);
        due("undo()", x.undo(), -2);
        due("back(0)", x.back(0), -2);
        due("left(0, 0)", x.left(0, 0), 3);
        due("trace()", x.trace(), 11);
        x.year();
        x.drains(3);
        x.moss();
        type(x, "p7 9;m0 3 1 2 9 1 2 3;");
        x.moss();
        due("left(0, 0), not DRIED", x.left(0, 0), 3);
    }

    private static void person() {
        promise = 5;
        MossPromises x = told("p10 9;p0 0;p99 0;");
        due("person(0, 0)", x.person(0, 0), 10);
        due("person(0, 1)", x.person(0, 1), -9);
        due("person(1, 0)", x.person(1, 0), 0);
        due("person(1, 1)", x.person(1, 1), 0);
        due("person(2, 0)", x.person(2, 0), 99);
        due("person(2, 1)", x.person(2, 1), 0);
        due("person(3, 0)", x.person(3, 0), -1);
        due("person(-1, 0)", x.person(-1, 0), -1);
        due("person(0, 2)", x.person(0, 2), -1);
        due("person(0, -1)", x.person(0, -1), -1);
    }

    private static final String THREE = "p10 9;p50 0;m0 2 1 3 20 1 2 3 4;m1 2 1 2 9 1 5;m1 3 0 9 99 7;x 2 0;x0 1;";

    private static void promiseOf() {
        promise = 6;
        MossPromises x = told(THREE);
        int[][] want = {{0, 2, 1, 3, 20, 4, 6, 0}, {1, 2, 1, 2, 9, 2, 1, 0}, {1, 3, 0, 9, 99, 1, 1, 0}};
        for (int m = 0; m < 3; m++) {
            for (int what = 0; what < 8; what++) {
                due("promise(" + m + ", " + what + ")", x.promise(m, what), want[m][what]);
            }
        }
        x.cuts(2);
        x.cuts(2);
        x.does(1);
        due("FOUND", x.promise(0, 7), 1);
        due("DONE", x.promise(1, 7), 2);
        years(x, 4);
        due("LOST", x.promise(2, 7), 3);
        due("promise(0, 8)", x.promise(0, 8), -1);
        due("promise(0, -1)", x.promise(0, -1), -1);
        due("promise(3, 0)", x.promise(3, 0), -1);
        due("promise(-1, 0)", x.promise(-1, 0), -1);
    }

    private static void word() {
        promise = 7;
        MossPromises x = told("a2;" + THREE);
        due("word(0, 0)", x.word(0, 0), 1);
        due("word(0, 3)", x.word(0, 3), 4);
        due("word(1, 1)", x.word(1, 1), 5);
        due("word(1, 2)", x.word(1, 2), -9);
        due("word(2, 0)", x.word(2, 0), 7);
        x.year();
        due("word(0, 2)", x.word(0, 2), 3);
        due("word(0, 3)", x.word(0, 3), -9);
        due("word(0, 4)", x.word(0, 4), -1);
        due("word(0, -1)", x.word(0, -1), -1);
        due("word(3, 0)", x.word(3, 0), -1);
        due("word(-1, 0)", x.word(-1, 0), -1);
        years(x, 3);
        due("word(0, 0) of a LOST one", x.word(0, 0), -9);
    }

    private static void cell() {
        promise = 8;
        MossPromises x = told(THREE);
        due("cell(2, 2)", x.cell(2, 2), 3);
        due("cell(3, 2)", x.cell(3, 2), 4);
        // the cell beside it slides whenever the two come near 12
        due("cell(0, 3)", x.cell(0, 3), -9);
        due("cell(5, 3)", x.cell(5, 3), -9);
        due("cell(2, 3)", x.cell(2, 3), 4);
        due("now(0)", x.now(0), 0);
        x.cuts(2);
        x.year();
        due("cell(2, 0)", x.cell(2, 0), 1);
        due("cell(2, 1)", x.cell(2, 1), 1);
        due("cell(0, 0)", x.cell(0, 0), 0);
        x.cuts(3);
        due("cell(3, 2)", x.cell(3, 2), 0);
        due("cell(6, 0)", x.cell(6, 0), -1);
        due("cell(-1, 0)", x.cell(-1, 0), -1);
        due("cell(0, 4)", x.cell(0, 4), -1);
        due("cell(0, -1)", x.cell(0, -1), -1);
        slides();
    }

    private static void slides() {
        MossPromises x = told("s27;");
        due("s 27: cell(0, 3)", x.cell(0, 3), -9);
        due("s 27: cell(1, 3)", x.cell(1, 3), 9);
        x = told("s18;");
        // cells 1 .. 4 slide in years 6, 12, ..; 0 is 9 wet, and 9 + 5 is below 18
        due("s 18: cell(1, 3)", x.cell(1, 3), 6);
        due("s 18: cell(0, 3)", x.cell(0, 3), -9);
        x = told("s7;");
        due("s 7: cell(2, 3)", x.cell(2, 3), 3);
        due("s 7: cell(5, 3)", x.cell(5, 3), 5);
        x = told("s1;");
        due("s 1: cell(5, 3)", x.cell(5, 3), 1);
        x = years(told("s26;"), 4);
        x.drains(3);
        years(x, 2);
        due("s 26: cell(2, 3), 51 years", x.cell(2, 3), -9);
        x.year();
        due("s 26: cell(2, 3), 50 years", x.cell(2, 3), 50);
    }

    private static void now() {
        promise = 9;
        MossPromises x = told(THREE);
        due("now(1)", x.now(1), 7);
        x.cuts(2);
        x.cuts(2);
        due("now(1)", x.now(1), 4);
        due("now(2)", x.now(2), 3);
        x.does(1);
        due("now(2)", x.now(2), 1);
        due("now(3)", x.now(3), 2);
        due("now(5)", x.now(5), 3);
        years(x, 4);
        due("now(0)", x.now(0), 4);
        due("now(1)", x.now(1), 0);
        due("now(4)", x.now(4), 4);
        due("now(5)", x.now(5), 7);
        years(x, 4);
        due("now(5)", x.now(5), 10);
        due("now(6)", x.now(6), -1);
        due("now(-1)", x.now(-1), -1);
    }

    private static void cuts() {
        promise = 10;
        MossPromises x = told("a5;p9 9;m0 0 0 1 9 1 2 3 4;m0 0 1 1 9 1 2 3 4;m0 0 1 1 9 1;m0 0 5 1 9 1;m0 1 0 1 9 1;");
        due("cuts(6)", x.cuts(6), -1);
        due("cuts(-1)", x.cuts(-1), -1);
        due("now(5)", x.now(5), 0);
        years(x, 3);
        due("cuts(0), DEPTH 0", x.cuts(0), 1);
        due("left(0, 9) stays", x.left(0, 9), 4);
        due("left(1, 0)", x.left(1, 0), 3);
        due("cuts(0), DEPTH 1", x.cuts(0), 2);
        due("left(1, 99) stays", x.left(1, 99), 3);
        due("cuts(0), DEPTH 2", x.cuts(0), 0);
        x.cuts(0);
        x.cuts(0);
        due("now(2)", x.now(2), 7);
        due("cuts(0), DEPTH 5", x.cuts(0), 1);
        due("cuts(0), 6 deep", x.cuts(0), -2);
        due("now(5)", x.now(5), 9);
        due("cell(0, 0)", x.cell(0, 0), 6);
        due("cell(0, 1)", x.cell(0, 1), 3);
        years(x, 1);
        due("year() by which 1 slides", x.now(4), 16);
        due("a LOST one is not FOUND", x.cuts(1), 0);
    }

    private static void drains() {
        promise = 11;
        MossPromises x = told("a20;s27;p9 9;m0 0 5 1 9 1 2 3 4;m0 0 0 1 9 1 2 3 4;m0 1 0 1 9 1 2 3 4;");
        due("drains(0), dry", x.drains(0), -2);
        due("drains(6)", x.drains(6), -1);
        due("drains(-1)", x.drains(-1), -1);
        due("now(5)", x.now(5), 0);
        years(x, 2);
        due("drains(0)", x.drains(0), 2);
        due("cell(0, 1)", x.cell(0, 1), 0);
        due("cell(1, 1)", x.cell(1, 1), 2);
        due("left(0, 0)", x.left(0, 0), 3);
        due("left(1, 0)", x.left(1, 0), 3);
        due("left(2, 0)", x.left(2, 0), 4);
        due("drains(0), dry", x.drains(0), -2);
        x.cuts(0);
        x.year();
        due("drains(0)", x.drains(0), 1);
        due("a FOUND one is not DRIED", x.left(1, 0), 3);
        due("left(0, 0)", x.left(0, 0), 2);
        for (int i = 0; i < 12; i++) {
            x.year();
            due("drains(0)", x.drains(0), 1);
        }
        due("1 at least", x.left(0, 0), 1);
        due("now(1)", x.now(1), 5);
    }

    private static void does() {
        promise = 12;
        MossPromises x = told(THREE);
        due("does(0), it LIES", x.does(0), -2);
        due("does(3)", x.does(3), -1);
        due("does(-1)", x.does(-1), -1);
        x.cuts(2);
        x.cuts(2);
        x.cuts(3);
        due("now(5)", x.now(5), 3);
        due("does(1)", x.does(1), 1);
        due("does(1), DONE", x.does(1), -2);
        due("does(0), a CLASH", x.does(0), -2);
        due("does(2)", x.does(2), 2);
        due("now(3)", x.now(3), 6);
        due("now(5)", x.now(5), 5);
        x = told(THREE);
        years(x, 4);
        due("does(0), LOST", x.does(0), -2);
    }

    private static void year() {
        promise = 13;
        MossPromises x = told("s5;p9 9;m0 0 0 1 9 1;m0 1 0 1 9 1;m0 1 1 1 9 1;m0 4 1 1 9 1;");
        due("year()", x.year(), 0);
        x.drains(0);
        x.drains(1);
        // then 1 1 2 2 2 2: 2 + 2 + 1 and beyond slide at once
        due("year()", x.year(), 1);
        due("now(4)", x.now(4), 8);
        int[] wet = {1, 1, 0, 0, 0, 2};
        for (int c = 0; c < 6; c++) {
            due("cell(" + c + ", 1)", x.cell(c, 1), wet[c]);
        }
        due("now(0)", x.now(0), 2);
        x = told("s3;p9 9;m0 0 0 1 9 1;m0 1 0 1 9 1;m0 1 1 1 9 1;m0 5 1 1 9 1;");
        x.cuts(1);
        due("year()", x.year(), 1);
        due("now(4)", x.now(4), 4);
        due("now(2)", x.now(2), 2);
        due("year()", x.year(), 2);
        due("now(4)", x.now(4), 13);
        x = told("s27;");
        years(x, 30);
        due("cell(0, 1)", x.cell(0, 1), 9);
        due("cell(1, 1)", x.cell(1, 1), 3);
        // 999 lies behind the 512th call, where the document leaves answers free: the program keeps to it all the same
        x = years(new MossPromises(), 998);
        due("year() in 998", x.year(), 0);
        due("now(0)", x.now(0), 999);
        due("year() in 999", x.year(), -2);
        due("now(0)", x.now(0), 999);
        due("now(5)", x.now(5), 10);
    }

    private static void undo() {
        promise = 14;
        MossPromises x = told("a1;s3;p9 9;m0 0 0 1 9 1 2 3;m0 1 0 1 9 1 2;m0 3 0 1 9 1 2 3 4;");
        due("undo()", x.undo(), -2);
        x.cuts(0);
        x.year();
        x.does(0);
        x.drains(0);
        x.rate(0, 0);
        x.sees(3);
        type(x, "p");
        due("now(4)", x.now(4), 6);
        due("undo()", x.undo(), 3);
        due("cell(0, 1)", x.cell(0, 1), 1);
        due("undo()", x.undo(), 2);
        due("now(2)", x.now(2), 1);
        due("now(3)", x.now(3), 0);
        due("undo()", x.undo(), 1);
        due("now(0)", x.now(0), 0);
        due("now(1)", x.now(1), 6);
        due("now(4)", x.now(4), 0);
        due("left(2, 0)", x.left(2, 0), 4);
        due("undo()", x.undo(), 0);
        due("cell(0, 0)", x.cell(0, 0), 0);
        due("now(1)", x.now(1), 7);
        due("undo()", x.undo(), -2);
        due("trace()", x.trace(), 1);
        due("count(4)", x.count(4), 1);
        due("count(5)", x.count(5), 1);
        x = new MossPromises();
        years(x, 13);
        x.cell(6, 6);
        x.drains(9);
        for (int i = 9; i >= 0; i--) {
            due("undo()", x.undo(), i);
            due("now(0)", x.now(0), 3 + i);
        }
        due("undo()", x.undo(), -2);
        years(x, 11);
        x.undo();
        years(x, 1);
        due("now(5)", x.now(5), 10);
        for (int i = 9; i >= 0; i--) {
            x.undo();
            due("now(0)", x.now(0), 4 + i);
        }
        x = told("s27;p9 9;m0 0 5 1 9 1 2 3 4;");
        x.year();
        x.drains(0);
        due("left(0, 0), DRIED", x.left(0, 0), 3);
        x.undo();
        due("left(0, 0), undone", x.left(0, 0), 4);
    }

    private static void left() {
        promise = 15;
        MossPromises x = told("a7;p9 9;m0 0 2 1 9 1 2 3 4;m0 1 0 1 9 1 2;m0 4 1 1 9 1 2 3;");
        due("left(0, 0)", x.left(0, 0), 4);
        due("left(0, 2)", x.left(0, 2), 4);
        due("left(0, 3)", x.left(0, 3), 3);
        due("left(0, 5)", x.left(0, 5), 2);
        due("left(0, 7)", x.left(0, 7), 1);
        due("left(0, 99)", x.left(0, 99), 1);
        due("left(1, 6)", x.left(1, 6), 2);
        due("left(1, 7)", x.left(1, 7), 1);
        due("left(3, 0)", x.left(3, 0), -1);
        due("left(-1, 0)", x.left(-1, 0), -1);
        due("left(0, 100)", x.left(0, 100), -1);
        due("left(0, -1)", x.left(0, -1), -1);
        years(x, 3);
        due("left(0, 0)", x.left(0, 0), 3);
        x.drains(0);
        due("left(0, 0)", x.left(0, 0), 2);
        x.cuts(1);
        x.does(1);
        due("DONE stays", x.left(1, 99), 2);
        years(x, 1);
        due("left(0, 0)", x.left(0, 0), 2);
        years(x, 8);
        due("LOST", x.left(2, 0), 0);
        due("LOST", x.left(2, 9), 0);
    }

    private static void lasts() {
        promise = 16;
        MossPromises x = new MossPromises();
        due("lasts(4, 4, 0)", x.lasts(4, 4, 0), 5);
        due("lasts(4, 4, 1)", x.lasts(4, 4, 1), 5);
        due("lasts(4, 4, 2)", x.lasts(4, 4, 2), 3);
        due("lasts(4, 4, 9)", x.lasts(4, 4, 9), 0);
        due("lasts(4, 4, 10)", x.lasts(4, 4, 10), -9);
        due("lasts(4, 3, 10)", x.lasts(4, 3, 10), 0);
        due("lasts(4, 2, 7)", x.lasts(4, 2, 7), 3);
        due("lasts(1, 1, 99)", x.lasts(1, 1, 99), 5);
        due("lasts(3, 4, 0)", x.lasts(3, 4, 0), -9);
        due("lasts(0, 1, 0)", x.lasts(0, 1, 0), -1);
        due("lasts(5, 1, 0)", x.lasts(5, 1, 0), -1);
        due("lasts(1, 0, 0)", x.lasts(1, 0, 0), -1);
        due("lasts(1, 5, 0)", x.lasts(1, 5, 0), -1);
        due("lasts(1, 1, -1)", x.lasts(1, 1, -1), -1);
        due("lasts(1, 1, 100)", x.lasts(1, 1, 100), -1);
        years(x, 9);
        due("YEAR 0 it is laid in", x.lasts(4, 4, 1), 5);
        due("ACID 1", told("a1;").lasts(4, 2, 1), 1);
    }

    private static void duty() {
        promise = 17;
        MossPromises x = told("p20 9;p5 0;p9 1;m2 0 0 1 9 1;m0 1 0 1 9 1;");
        due("duty(0, 8)", x.duty(0, 8), 2);
        due("duty(0, 9), 1 is dead, too", x.duty(0, 9), 0);
        due("duty(0, 19)", x.duty(0, 19), 0);
        due("duty(0, 20)", x.duty(0, 20), -9);
        due("duty(1, 19)", x.duty(1, 19), 0);
        due("duty(1, 99)", x.duty(1, 99), -9);
        due("duty(2, 0)", x.duty(2, 0), -1);
        due("duty(-1, 0)", x.duty(-1, 0), -1);
        due("duty(0, -1)", x.duty(0, -1), -1);
        due("duty(0, 100)", x.duty(0, 100), -1);
        years(x, 8);
        due("LOST, duty(0, 0)", x.duty(0, 0), 2);
        due("LOST, duty(0, 1)", x.duty(0, 1), 0);
        due("duty(0, 12)", x.duty(0, 12), -9);
        due("six heirs", told("p99 9;p0 0;p0 1;p0 2;p0 3;p0 4;m5 0 0 1 9 1;").duty(0, 98), 0);
    }

    private static void sees() {
        promise = 18;
        MossPromises x = new MossPromises();
        due("sees(-1)", x.sees(-1), -1);
        due("sees(10)", x.sees(10), -1);
        due("sees(0)", x.sees(0), 1);
        due("sees(9)", x.sees(9), 2);
        due("sees(9)", x.sees(9), 3);
        due("sees(0)", x.sees(0), 4);
        due("sees(0), full", x.sees(0), -3);
        due("sees(10), full", x.sees(10), -1);
        due("count(4)", x.count(4), 4);
    }

    private static void forget() {
        promise = 19;
        MossPromises x = new MossPromises();
        due("forget()", x.forget(), 0);
        x.sees(4);
        x.sees(5);
        due("forget()", x.forget(), 2);
        due("count(4)", x.count(4), 0);
        due("sees(1)", x.sees(1), 1);
    }

    private static final String SLABS =
        "a6;p9 9;m0 0 1 1 9 1 2 3 4;m0 1 0 1 9 1 2;m0 2 0 1 9 1 3;m0 3 0 1 9 2 1 1 1;m0 4 0 1 9 1 0 5;m0 5 0 1 9 1 2 8;";

    private static void fits() {
        promise = 20;
        MossPromises x = told(SLABS);
        due("nothing SEEN", x.fits(), 63);
        x.sees(1);
        due("1", x.fits(), 55);
        x.sees(2);
        due("1 2", x.fits(), 35);
        x.sees(3);
        due("1 2 3", x.fits(), 1);
        x.sees(4);
        due("1 2 3 4", x.fits(), 1);
        years(x, 3);
        due("3 are left", x.fits(), 0);
        x.forget();
        x.sees(1);
        x.sees(2);
        x.cuts(1);
        due("a FOUND one lies no more", x.fits(), 33);
        x.year();
        x.forget();
        due("LOST ones lie no more", x.fits(), 33);
    }

    private static void likely() {
        promise = 21;
        MossPromises x = told(SLABS);
        due("nothing SEEN", x.likely(), 1);
        x.sees(1);
        due("1", x.likely(), 2);
        x.sees(2);
        due("1 2: 3 or 8", x.likely(), 3);
        x.cuts(1);
        x.sees(3);
        x.sees(4);
        due("1 2 3 4", x.likely(), -9);
        x.forget();
        x.sees(1);
        due("1: 2 twice yet", x.likely(), 2);
        x.drains(5);
        x.cuts(5);
        due("1: 0, 2, 3 once each", x.likely(), 0);
        x.forget();
        x.sees(2);
        x.sees(2);
        due("2 2", x.likely(), -9);
        x = told("p9 9;m0 0 0 1 9 4 2;");
        x.sees(4);
        x.year();
        due("4", x.likely(), 2);
        x.drains(0);
        due("4, the next is eaten", x.likely(), -9);
        due("fits()", x.fits(), 1);
    }

    private static void kept() {
        promise = 22;
        MossPromises x = told("p9 9;m0 0 0 1 9 1 2;m0 0 0 1 9 1 2 3;m0 0 0 1 9 1;m0 0 0 1 9 1 2 3 4;m0 0 1 1 9 1;x0 1;x1 2;x3 4;");
        due("kept(0), nothing FOUND", x.kept(0), 0);
        due("kept(1)", x.kept(1), 0);
        x.cuts(0);
        due("kept(0): 0 2 3, or 1 3", x.kept(0), 13 - 3);
        due("kept(1)", x.kept(1), 7);
        x.does(0);
        due("kept(0), 0 DONE", x.kept(0), 12);
        due("kept(1)", x.kept(1), 5);
        x.cuts(0);
        x.does(4);
        due("kept(0), 4 DONE, too", x.kept(0), 4);
        due("kept(1)", x.kept(1), 1);
        due("kept(2)", x.kept(2), -1);
        due("kept(-1)", x.kept(-1), -1);
        x = told("p9 9;m0 0 0 1 9 1 2;m0 0 0 1 9 1 2;m0 0 0 1 9 1 2;x0 1;");
        x.cuts(0);
        due("kept(0), of several the least", x.kept(0), 5);
    }

    private static void order() {
        promise = 23;
        MossPromises x = told("p9 9;m0 0 0 3 9 1;m0 0 0 2 4 1;m0 0 0 4 9 1;m0 0 0 5 6 1;m0 0 1 1 1 1;x0 1;");
        due("order(-1), nothing FOUND", x.order(-1), 0);
        due("order(0)", x.order(0), -9);
        x.cuts(0);
        due("order(-1)", x.order(-1), 3);
        due("order(0)", x.order(0), 1);
        due("order(1)", x.order(1), 0);
        due("order(2)", x.order(2), 2);
        due("order(3)", x.order(3), -9);
        due("order(7)", x.order(7), -9);
        due("order(8)", x.order(8), -1);
        due("order(-2)", x.order(-2), -1);
        x.year();
        due("order(-1), YEAR 1", x.order(-1), 2);
        due("order(0)", x.order(0), 1);
        due("order(1)", x.order(1), 0);
        x.does(1);
        due("order(-1), 1 DONE", x.order(-1), 2);
        due("order(0)", x.order(0), 0);
        due("order(1)", x.order(1), 2);
        years(x, 9);
        due("order(-1), too late", x.order(-1), 0);
        due("order(0)", x.order(0), -9);
    }

    private static void drain() {
        promise = 24;
        MossPromises x = new MossPromises();
        due("drain(0)", x.drain(0), 0);
        due("drain(3)", x.drain(3), 0);
        due("drain(4)", x.drain(4), -9);
        due("drain(-1)", x.drain(-1), -1);
        due("drain(21)", x.drain(21), -1);
        years(x, 3);
        due("drain(1): 0 or 1 or 2, and 3 or more", x.drain(1), 9);
        due("drain(2): each three", x.drain(2), 27);
        due("drain(3)", x.drain(3), 63);
        due("drain(4)", x.drain(4), -9);
        due("cell(0, 1)", x.cell(0, 1), 3);
        due("now(5)", x.now(5), 3);
        x = told("s27;");
        due("drain(8)", x.drain(8), 0);
        due("drain(20)", x.drain(20), -9);
    }

    private static void odds() {
        promise = 25;
        int[][] want = {
            {0, 0, 0, 1, 1}, {0, 6, 1, 0, 1}, {10, 6, 6, 1, 1}, {5, 1, 1, 1, 2}, {5, 2, 1, 3, 4}, {5, 6, 3, 21, 32},
            {2, 3, 2, 13, 125}, {3, 2, 2, 9, 100}, {1, 6, 6, 1, 1000000}, {9, 6, 1, 999999, 1000000}, {4, 2, 3, 0, 1},
            {7, 3, 0, 1, 1}, {10, 0, 1, 0, 1}, {10, 0, 0, 1, 1},
        };
        MossPromises x = new MossPromises();
        for (int[] w : want) {
            String call = "odds(" + w[0] + ", " + w[1] + ", " + w[2];
            due(call + ", 0)", x.odds(w[0], w[1], w[2], 0), w[3]);
            due(call + ", 1)", x.odds(w[0], w[1], w[2], 1), w[4]);
        }
        int[][] bad = {{-1, 0, 0, 0}, {11, 0, 0, 0}, {0, -1, 0, 0}, {0, 7, 0, 0}, {0, 0, -1, 0}, {0, 0, 7, 0}, {0, 0, 0, -1},
            {0, 0, 0, 2}};
        for (int[] b : bad) {
            due("odds(bad)", x.odds(b[0], b[1], b[2], b[3]), -1);
        }
    }

    private static void rate() {
        promise = 26;
        MossPromises x = told("a20;s27;p9 9;m0 0 0 9 9 1;m0 0 3 5 9 1 2 3 4;");
        years(x, 6);
        int[] want = {3, 6, -2, 12, -1, 9};
        int[] traced = {1, 11, 101, 1011, 10101, 100001};
        long trace = 0;
        for (int kind = 0; kind < 6; kind++) {
            due("rate(" + kind + ", 1)", x.rate(kind, 1), want[kind]);
            trace += traced[kind];
            due("trace()", x.trace(), trace);
        }
        due("rate(2, 0)", x.rate(2, 0), -8);
        trace += 101;
        due("rate(-1, 0)", x.rate(-1, 0), -1000000);
        due("rate(6, 0)", x.rate(6, 0), -1000000);
        due("rate(0, -1)", x.rate(0, -1), -1000000);
        due("rate(0, 2)", x.rate(0, 2), -1000000);
        due("trace()", x.trace(), trace);
        x = told("s3;p9 9;m0 1 2 5 9 1 2 3 4;");
        x.year();
        due("rate(0, 0), LOST", x.rate(0, 0), 0);
        due("rate(3, 0), LOST", x.rate(3, 0), 4);
        due("rate(5, 0), LOST", x.rate(5, 0), 1);
    }

    private static void images() {
        promise = 27;
        MossPromises x = told("s27;p9 9;m0 0 0 1 9 1 2 3;m0 0 1 1 9 1 2 3;");
        due("keep(-1)", x.keep(-1), -1);
        due("keep(2)", x.keep(2), -1);
        due("keep(0)", x.keep(0), 0);
        years(x, 2);
        x.cuts(0);
        x.drains(0);
        x.does(0);
        due("keep(1)", x.keep(1), 2);
        due("now(5)", x.now(5), 5);
        promise = 28;
        x.sees(1);
        due("back(-1)", x.back(-1), -1);
        due("back(2)", x.back(2), -1);
        due("back(0)", x.back(0), 0);
        due("undo()", x.undo(), -2);
        due("now(0)", x.now(0), 0);
        due("now(1)", x.now(1), 3);
        due("cell(0, 0)", x.cell(0, 0), 0);
        due("cell(1, 1)", x.cell(1, 1), 0);
        due("left(1, 0)", x.left(1, 0), 3);
        due("count(4)", x.count(4), 1);
        years(x, 1);
        due("back(1)", x.back(1), 2);
        due("now(3)", x.now(3), 1);
        due("cell(0, 0)", x.cell(0, 0), 1);
        due("cell(0, 1)", x.cell(0, 1), 0);
        due("cell(1, 1)", x.cell(1, 1), 2);
        due("left(0, 0)", x.left(0, 0), 3);
        due("left(1, 0)", x.left(1, 0), 2);
        x.rate(0, 0);
        due("back(0)", x.back(0), 0);
        due("trace()", x.trace(), 1);
        x.year();
        due("keep(0)", x.keep(0), 1);
        due("undo()", x.undo(), 0);
        due("back(0), kept anew", x.back(0), 1);
        x = told("");
        x.keep(1);
        x.year();
        due("back(0), none kept", x.back(0), -2);
        due("now(5)", x.now(5), 1);
    }

    private static void count() {
        promise = 29;
        MossPromises x = told("a3;s4;p9 9;p9 9;m0 0 0 1 9 1;");
        x.sees(1);
        x.type(1);
        int[] want = {2, 1, 3, 4, 1, 1};
        for (int what = 0; what < 6; what++) {
            due("count(" + what + ")", x.count(what), want[what]);
        }
        due("count(-1)", x.count(-1), -1);
        due("count(6)", x.count(6), -1);
    }

    private static void trace() {
        promise = 30;
        MossPromises x = told("p9 9;m0 0 0 1 9 1;");
        x.keep(0);
        x.rate(3, 0);
        due("trace()", x.trace(), 1011);
        x.year();
        x.rate(4, 0);
        x.undo();
        due("trace() behind undo()", x.trace(), 11112);
        x.back(0);
        due("trace() behind back()", x.trace(), 11112);
        x.moss();
        due("trace() behind moss()", x.trace(), 11112);
        x.rate(5, 0);
        due("trace(), BAD", x.trace(), 11112);
    }

    public static void main(String[] args) {
        constants();
        aNewObject();
        type();
        clear();
        moss();
        person();
        promiseOf();
        word();
        cell();
        now();
        cuts();
        drains();
        does();
        year();
        undo();
        left();
        lasts();
        duty();
        sees();
        forget();
        fits();
        likely();
        kept();
        order();
        drain();
        odds();
        rate();
        images();
        count();
        trace();
        System.out.println(wrong == 0 ? "all answers are as due" : wrong + " answers are not as due");
        if (wrong != 0) {
            System.exit(1);
        }
    }
}
