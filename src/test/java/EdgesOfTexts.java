/** The edges of what a text may tell: a test for each sentence of the document's Terms, and of promises 1 to 4. */
public final class EdgesOfTexts {
    private static final String EIGHT = "p9 9;" + Due.times("m0 0 0 1 0 0;", 8);
    private static final String TWO = "p9 9;" + Due.times("m0 0 0 1 0 0;", 2);

    // ---- persons and promises

    private static void cellsInARow() {
        Due.sentence("5 lie in a row.");
        for (int c = 0; c <= 5; c++) {
            Due.due("promise(0, 1)", Due.told("p9 9;m0 " + c + " 0 1 0 0;").promise(0, 1), c);
        }
        Due.fault("p9 9;m0 6 0 1 0 0;", 8);
        Due.fault("p9 9;m0 99 0 1 0 0;", 8);
        // were the row a ring, 0 would lie between 5 and 1, and slide with them when all are 9 WET
        MossPromises x = Due.told("s27;");
        Due.due("cell(0, 3)", x.cell(0, 3), Due.NONE);
        Due.due("cell(1, 3)", x.cell(1, 3), 9);
        Due.due("cell(4, 3)", x.cell(4, 3), 9);
        Due.due("cell(5, 3)", x.cell(5, 3), Due.NONE);
    }

    private static void persons() {
        Due.sentence("PERSONS 0 .. (6 at most)");
        MossPromises x = Due.told("p1 9;p2 9;p3 9;p4 9;p5 9;p6 9;");
        Due.due("count(0)", x.count(0), 6);
        Due.due("person(5, 0)", x.person(5, 0), 6);
        Due.due("person(6, 0)", x.person(6, 0), Due.BAD);
        Due.sentence("a seventh p");
        Due.fault("p1 9;p2 9;p3 9;p4 9;p5 9;p6 9; p7 9;", 31);
        Due.fault("p1 9;p2 9;p3 9;p4 9;p5 9;p6 9;a1;p", 33);
    }

    private static void dies() {
        Due.sentence("DIES (a YEAR 0 .. 99)");
        Due.due("person(0, 0)", Due.told("p0 9;").person(0, 0), 0);
        Due.due("person(0, 0)", Due.told("p99 9;").person(0, 0), 99);
        Due.fault("p100 9;", 1);
    }

    private static void heir() {
        Due.sentence("HEIR (a PERSON told ahead, or none)");
        MossPromises x = Due.told("p1 9;p1 0;p1 1;p1 2;p1 3;p1 4;");
        for (int p = 1; p < 6; p++) {
            Due.due("person(" + p + ", 1)", x.person(p, 1), p - 1);
        }
        Due.due("person(0, 1)", x.person(0, 1), Due.NONE);
        Due.fault("p1 0;", 3);
        Due.fault("p1 9;p1 1;", 8);
        Due.fault("p1 9;p1 9;p1 9;p1 9;p1 9;p1 5;", 28);
        Due.sentence("p D H (a PERSON; H 9: no HEIR)");
        Due.due("person(1, 1)", Due.told("p1 9;p1 9;").person(1, 1), Due.NONE);
        for (int noOne : new int[] {6, 7, 8, 10, 99}) {
            Due.fault("p1 9;p1 9;p1 9;p1 9;p1 9;p1 " + noOne + ";", 28);
        }
    }

    private static void promises() {
        Due.sentence("PROMISES 0 .. (8 at most)");
        MossPromises x = Due.told(EIGHT);
        Due.due("count(1)", x.count(1), 8);
        Due.due("promise(7, 3)", x.promise(7, 3), 1);
        Due.due("promise(8, 3)", x.promise(8, 3), Due.BAD);
        Due.due("now(1)", x.now(1), 255);
        Due.sentence("a ninth m");
        Due.fault(EIGHT + "m0 0 0 1 0 0;", EIGHT.length());
        Due.fault(EIGHT + "a1; m", EIGHT.length() + 4);
    }

    private static void who() {
        Due.sentence("WHO made it (a PERSON)");
        String six = "p1 9;p1 9;p1 9;p1 9;p1 9;p1 9;";
        Due.due("promise(0, 0)", Due.told(six + "m0 0 0 1 0 0;").promise(0, 0), 0);
        Due.due("promise(0, 0)", Due.told(six + "m5 0 0 1 0 0;").promise(0, 0), 5);
        Due.fault(six + "m6 0 0 1 0 0;", 31);
        Due.sentence("m W C D S U and 1 to 4 WORDS (a PROMISE of a PERSON told ahead)");
        Due.fault("m0 0 0 1 0 0;", 1);
        Due.fault("m0 0 0 1 0 0;p1 9;", 1);
        Due.fault("p1 9;m1 0 0 1 0 0;p1 9;", 6);
    }

    private static void numbersOfAPromise() {
        Due.sentence("CELL, DEPTH (0 .. 5)");
        for (int depth = 0; depth <= 5; depth++) {
            Due.due("promise(0, 2)", Due.told("p9 9;m0 0 " + depth + " 1 0 0;").promise(0, 2), depth);
        }
        Due.fault("p9 9;m0 0 6 1 0 0;", 10);
        Due.fault("p9 9;m0 0 99 1 0 0;", 10);
        Due.sentence("SPAN (1 .. 9 years to do it)");
        Due.due("promise(0, 3)", Due.told("p9 9;m0 0 0 1 0 0;").promise(0, 3), 1);
        Due.due("promise(0, 3)", Due.told("p9 9;m0 0 0 9 0 0;").promise(0, 3), 9);
        Due.fault("p9 9;m0 0 0 0 0 0;", 12);
        Due.fault("p9 9;m0 0 0 10 0 0;", 12);
        Due.sentence("DUE (a YEAR 0 .. 99)");
        Due.due("promise(0, 4)", Due.told("p9 9;m0 0 0 1 0 0;").promise(0, 4), 0);
        Due.due("promise(0, 4)", Due.told("p9 9;m0 0 0 1 99 0;").promise(0, 4), 99);
        Due.fault("p9 9;m0 0 0 1 100 0;", 14);
    }

    private static void words() {
        Due.sentence("1 to 4 WORDS (0 .. 9 each)");
        Due.fault("p9 9;m0 0 0 1 0;", 15);
        MossPromises one = Due.told("p9 9;m0 0 0 1 0 9;");
        Due.due("promise(0, 5)", one.promise(0, 5), 1);
        Due.due("word(0, 0)", one.word(0, 0), 9);
        Due.due("word(0, 1)", one.word(0, 1), Due.NONE);
        MossPromises four = Due.told("p9 9;m0 0 0 1 0 9 0 9 0;");
        Due.due("promise(0, 5)", four.promise(0, 5), 4);
        Due.due("word(0, 2)", four.word(0, 2), 9);
        Due.due("word(0, 3)", four.word(0, 3), 0);
        Due.fault("p9 9;m0 0 0 1 0 10;", 16);
        Due.fault("p9 9;m0 0 0 1 0 0 0 0 10;", 22);
        Due.sentence("a fifth WORD");
        Due.fault("p9 9;m0 0 0 1 0 0 0 0 0 0;", 24);
        // a promise of fewer words, told in the place of one of four, has none of these
        MossPromises x = Due.told("p9 9;m0 0 0 1 0 1 2 3 4;");
        Due.type(x, "p9 9;m0 0 0 1 0 5;").moss();
        Due.due("word(0, 0)", x.word(0, 0), 5);
        Due.due("word(0, 1)", x.word(0, 1), Due.NONE);
    }

    private static void clashes() {
        Due.sentence("CLASHES: twos of unlike PROMISES");
        MossPromises x = Due.told(EIGHT + "x7 0;x0 1;");
        Due.due("promise(0, 6)", x.promise(0, 6), 128 + 2);
        Due.due("promise(7, 6)", x.promise(7, 6), 1);
        Due.due("promise(1, 6)", x.promise(1, 6), 1);
        Due.due("promise(2, 6)", x.promise(2, 6), 0);
        Due.sentence("B that is A");
        Due.fault(TWO + "x0 0;", 34);
        Due.fault(TWO + "x1 1;", 34);
        Due.sentence("x A B (a CLASH of PROMISES told ahead; told again: as it is)");
        Due.fault(TWO + "x2 0;", 32);
        Due.fault(TWO + "x0 2;", 34);
        Due.fault("p9 9;m0 0 0 1 0 0;x0 1;m0 0 0 1 0 0;", 21);
        MossPromises again = Due.told(TWO + "x0 1;x0 1;x1 0;");
        Due.due("promise(0, 6)", again.promise(0, 6), 2);
        Due.due("promise(1, 6)", again.promise(1, 6), 1);
        Due.due("a faulty text's CLASHES", faultyClashes().promise(0, 6), 0);
        MossPromises many = Due.told("p9 9;" + Due.times("m0 0 0 1 0 0;", 4) + "x0 3;x1 3;x3 2;");
        int[] with = {8, 8, 8, 7};
        for (int m = 0; m < 4; m++) {
            Due.due("promise(" + m + ", 6), many CLASHES", many.promise(m, 6), with[m]);
        }
    }

    private static MossPromises faultyClashes() {
        MossPromises x = Due.told(TWO);
        Due.due("moss()", Due.type(x, TWO + "x0 1;?").moss(), -10 - TWO.length() - 5);
        x.clear();
        Due.due("moss()", Due.type(x, TWO).moss(), 3);
        return x;
    }

    private static void personOrPromiseThatThereIsNot() {
        Due.sentence("a PERSON, a PROMISE that there is not");
        Due.fault("p9 9;p9 2;", 8);
        Due.fault("p9 9;m1 0 0 1 0 0;", 6);
        Due.fault("x0 1;", 1);
        Due.fault("p9 9;m0 0 0 1 0 0;x1 0;", 19);
        Due.fault("p9 9;m0 0 0 1 0 0;x0 1;", 21);
        Due.fault(EIGHT + "x8 0;", EIGHT.length() + 1);
        Due.fault(EIGHT + "x7 8;", EIGHT.length() + 3);
    }

    private static void acidAndSlide() {
        Due.sentence("ACID (1 .. 20; 10 at first)");
        Due.due("count(2)", new MossPromises().count(2), 10);
        Due.due("count(2)", Due.told("a1;").count(2), 1);
        Due.due("count(2)", Due.told("a20;").count(2), 20);
        Due.fault("a0;", 1);
        Due.fault("a21;", 1);
        Due.sentence("SLIDE (1 .. 27; 12 at first)");
        Due.due("count(3)", new MossPromises().count(3), 12);
        Due.due("count(3)", Due.told("s1;").count(3), 1);
        Due.due("count(3)", Due.told("s27;").count(3), 27);
        Due.fault("s0;", 1);
        Due.fault("s28;", 1);
        Due.sentence("a N (ACID), s N (SLIDE; once at most each)");
        MossPromises both = Due.told("s3;p9 9;a4;");
        Due.due("count(2)", both.count(2), 4);
        Due.due("count(3)", both.count(3), 3);
        Due.sentence("a, s again");
        Due.fault("a1;a1;", 3);
        Due.fault("a10; p9 9; a10;", 11);
        Due.fault("s1;s1;", 3);
        Due.fault("s12;a10;s12;", 8);
        // once in each text: the next one may tell them again
        Due.due("moss()", Due.type(both, "a5;s6;").moss(), 2);
        Due.due("moss() behind a fault", Due.type(both, "a7;s7;q").moss(), -16);
        both.clear();
        Due.due("moss()", Due.type(both, "a8;s9;").moss(), 2);
        Due.due("count(2)", both.count(2), 8);
        Due.due("count(3)", both.count(3), 9);
    }

    // ---- the text

    private static void twoHundredLetters() {
        Due.sentence("a text (200 letters at most)");
        MossPromises x = Due.type(new MossPromises(), Due.times(" ", 195) + "p7 9;");
        Due.due("count(5)", x.count(5), 200);
        Due.due("type(59)", x.type(';'), Due.FULL);
        Due.due("moss()", x.moss(), 1);
        Due.due("person(0, 0)", x.person(0, 0), 7);
        Due.due("type(59), behind moss()", x.type(';'), 1);
        Due.fault("a" + Due.times(" ", 199), 200);
        Due.fault(Due.times(" ", 199) + ";", 199);
        Due.fault(Due.times(" ", 199) + "s", 200);
        // 66 items and more are no fault by themselves
        Due.told("p9 9;" + Due.times("m0 0 0 1 0 0;", 2) + Due.times("x0 1;", 33));
    }

    private static void blanks() {
        Due.sentence("blanks (32), any number, ahead of, between, behind TOKENS (needed only between two NUMBERS)");
        Due.due("moss() of blanks", Due.type(new MossPromises(), Due.times(" ", 200)).moss(), 0);
        Due.told("   p   1   9   ;   m  0  0  0  1  0  0  0  ;  ");
        Due.told("p1 9;m0 0 0 1 0 0;m0 0 0 1 0 0;x0 1;a1;s1;");
        Due.told("p1     9;m0      0 0 1 0    0   ;");
        Due.fault("p19;", 3);
        Due.fault("p1 9;m000100;", 6);
        Due.fault("p1 9;m1 00100;", 6);
        for (int almost : new int[] {0, 9, 10, 13, 31, 33, 95, 160}) {
            Due.fault("p1" + (char) almost + "9;", 2);
        }
    }

    private static void items() {
        Due.sentence("ITEMS (none, too), each ended by ;");
        Due.due("moss() of nothing", new MossPromises().moss(), 0);
        Due.due("moss() of a blank", Due.type(new MossPromises(), " ").moss(), 0);
        Due.fault(";", 0);
        Due.fault("a1;;", 3);
        Due.fault("a1", 2);
        Due.fault("a1 s1;", 3);
        Due.fault("p1 9 m0 0 0 1 0 0;", 5);
        Due.fault("p1 9;m0 0 0 1 0 0 a1;", 18);
        Due.fault(TWO + "x0 1 x0 1;", 36);
        Due.fault("s1 2;", 3);
    }

    // ---- FAULT

    private static void tokens() {
        Due.sentence("TOKENS are the letters p, m, x, a, s, NUMBERS and ;");
        for (int letter = 0; letter < 256; letter++) {
            MossPromises x = new MossPromises();
            x.type(letter);
            int want = letter == ' ' ? 0 : "pmxas".indexOf(letter) >= 0 ? -11 : -10;
            Due.due("moss() of letter " + letter, x.moss(), want);
        }
        Due.sentence("of any other letter");
        for (int letter = 0; letter < 256; letter++) {
            if (" ;0123456789".indexOf(letter) < 0) {
                Due.fault("p1" + (char) letter + "9;", 2);
                Due.fault("a1 " + (char) letter, 3);
                Due.fault("a1;p1 " + (char) letter + ";", 6);
            }
        }
    }

    private static void firstLetterOfTheFirstToken() {
        Due.sentence("the place of the first letter of the first TOKEN that can't stand there");
        Due.fault("  a   21;", 6);
        Due.fault("p1   10;", 5);
        Due.fault("p 100 9;", 2);
        Due.fault("5", 0);
        Due.fault("p;", 1);
        Due.fault("pp", 1);
        Due.fault("p1p", 2);
        Due.fault("m p", 2);
        Due.fault("xx", 1);
        Due.fault("a;", 1);
        Due.fault("sa", 1);
        // of several faults the first from the left
        Due.fault("a0;?", 1);
        Due.fault("?a0;", 0);
        Due.fault("p1 0;p100 9;", 3);
        Due.fault("p100 0;", 1);
        Due.fault("p1 9;p01 9;a1;a1;", 6);
        Due.fault("a1;a1;?", 3);
        Due.fault("a1;?a1;", 3);
    }

    private static void numberBeyond() {
        Due.sentence("a NUMBER beyond what it may be, too");
        String most = "p99 9;m0 5 5 9 99 9 9 9 9;a20;s27;";
        Due.told(most);
        int[][] beyond = {{1, 100}, {4, 10}, {7, 1}, {9, 6}, {11, 6}, {13, 10}, {15, 100}, {18, 10}, {20, 10}, {22, 10},
            {24, 10}, {27, 21}, {31, 28}};
        for (int[] one : beyond) {
            Due.fault(withNumber(most, one[0], "" + one[1]), one[0]);
            Due.fault(withNumber(most, one[0], "00"), one[0]);
        }
    }

    /** The text with another number at the place of the one that begins there. */
    private static String withNumber(String text, int place, String number) {
        int behind = place;
        while (Character.isDigit(text.charAt(behind))) {
            behind++;
        }
        return text.substring(0, place) + number + text.substring(behind);
    }

    private static void numberAbove99() {
        Due.sentence("a NUMBER above 99");
        Due.told("p99 9;m0 0 0 1 99 0;");
        // 2^8, 2^16, 2^31, 2^32, 2^63 and 2^64, each and a little: numbers that would wrap around to small ones
        String[] great = {"100", "101", "110", "256", "257", "999", "65537", "2147483648", "2147483649", "4294967296",
            "4294967297", "4294967305", "9223372036854775809", "18446744073709551616", "18446744073709551617",
            Due.times("9", 190), "1" + Due.times("0", 190)};
        for (String number : great) {
            Due.fault("a" + number + ";", 1);
            Due.fault("p" + number, 1);
            Due.fault("p1 " + number + ";", 3);
        }
        Due.fault("a1" + Due.times("0", 198), 1);
    }

    private static void zeroAhead() {
        Due.sentence("with a 0 ahead of others");
        Due.told("p0 9;m0 0 0 1 0 0;");
        Due.fault("p00 9;", 1);
        Due.fault("p01 9;", 1);
        Due.fault("p 099 9;", 2);
        Due.fault("p1 09;", 3);
        Due.fault("a010;", 1);
        Due.fault("a0" + Due.times("0", 198), 1);
        Due.told("a10;s20;p90 9;");
    }

    private static void endsTooEarly() {
        Due.sentence("the text's length, if it ends too early");
        String text = " p99 9 ;p10 0;m1 5 5 9 99 9 8 7 6;m0 0 0 1 0 0; x 0 1 ;a20 ; s27;";
        int items = 0;
        for (int length = 0; length <= text.length(); length++) {
            String begun = text.substring(0, length);
            items += begun.endsWith(";") ? 1 : 0;
            if (begun.isBlank() || begun.stripTrailing().endsWith(";")) {
                Due.due("moss() of " + begun, Due.type(new MossPromises(), begun).moss(), items);
            } else {
                Due.fault(begun, length);
            }
        }
        Due.fault("a   ", 4);
    }

    // ---- promises 1 to 4

    private static void aNewObject() {
        Due.sentence("As told; no PERSONS, no PROMISES.");
        MossPromises x = new MossPromises();
        Due.due("count(0)", x.count(0), 0);
        Due.due("count(1)", x.count(1), 0);
        Due.due("person(0, 0)", x.person(0, 0), Due.BAD);
        Due.due("promise(0, 0)", x.promise(0, 0), Due.BAD);
        Due.due("word(0, 0)", x.word(0, 0), Due.BAD);
        Due.due("left(0, 0)", x.left(0, 0), Due.BAD);
        Due.due("duty(0, 0)", x.duty(0, 0), Due.BAD);
        Due.due("does(0)", x.does(0), Due.BAD);
        Due.due("rate(0, 0)", x.rate(0, 0), Due.NO);
        Due.due("count(4)", x.count(4), 0);
        Due.due("count(5)", x.count(5), 0);
        Due.due("trace()", x.trace(), 0);
    }

    private static void typing() {
        Due.sentence("A letter (0 .. 255) comes to THE TEXT: how many it has. BAD; FULL.");
        MossPromises x = new MossPromises();
        Due.due("type(-1)", x.type(-1), Due.BAD);
        Due.due("type(256)", x.type(256), Due.BAD);
        for (int far : Due.FAR) {
            Due.due("type(" + far + ")", x.type(far), Due.BAD);
        }
        Due.due("type(256 + 'a')", x.type(256 + 'a'), Due.BAD);
        Due.due("type(0)", x.type(0), 1);
        Due.due("type(255)", x.type(255), 2);
        for (int i = 3; i <= 200; i++) {
            Due.due("type(32)", x.type(32), i);
        }
        Due.due("type(32), the 201st", x.type(32), Due.FULL);
        Due.due("type(256), the 201st", x.type(256), Due.BAD);
        Due.due("type(-1), the 201st", x.type(-1), Due.BAD);
        Due.due("count(5)", x.count(5), 200);
    }

    private static void clearing() {
        Due.sentence("THE TEXT is empty: how many letters it had.");
        MossPromises x = new MossPromises();
        Due.due("clear() of nothing", x.clear(), 0);
        Due.due("clear()", Due.type(x, Due.times("q", 200)).clear(), 200);
        Due.due("clear() again", x.clear(), 0);
        Due.due("type(32)", x.type(32), 1);
        Due.due("moss(): of what was cleared nothing is left", x.moss(), 0);
    }

    private static void mossOfNothing() {
        Due.sentence("THE TEXT tells all anew, and is empty then: how many ITEMS.");
        MossPromises x = Due.told("a3;s4;" + TWO + "x0 1;");
        Due.due("count(5)", x.count(5), 0);
        Due.due("moss() of nothing", x.moss(), 0);
        Due.due("count(0)", x.count(0), 0);
        Due.due("count(1)", x.count(1), 0);
        Due.due("now(1)", x.now(1), 0);
        Due.due("cell(0, 2)", x.cell(0, 2), 0);
        Due.sentence("-10 less FAULT: nothing changes (THE TEXT stays, too).");
        x = Due.type(Due.told("p5 9;"), "?");
        Due.due("moss()", x.moss(), -10);
        Due.due("count(5)", x.count(5), 1);
        Due.due("moss() again", x.moss(), -10);
        Due.due("person(0, 0)", x.person(0, 0), 5);
        Due.due("type(59): the text goes on", x.type(';'), 2);
        Due.due("the last place", Due.type(new MossPromises(), Due.times(" ", 199) + "q").moss(), -209);
        Due.due("the length", Due.type(new MossPromises(), Due.times(" ", 199) + "a").moss(), -210);
    }

    private static void readAnew() {
        Due.sentence("what is not told as at first");
        MossPromises x = Due.told("a3;s4;" + TWO + "x0 1;");
        Due.due("moss()", Due.type(x, "a5;").moss(), 1);
        Due.due("count(2)", x.count(2), 5);
        Due.due("count(3)", x.count(3), 12);
        Due.due("moss()", Due.type(x, TWO).moss(), 3);
        Due.due("count(2)", x.count(2), 10);
        Due.due("promise(0, 6)", x.promise(0, 6), 0);
        Due.sentence("YEAR 0, nothing SEEN, IMAGES are gone, nothing can be UNDONE; THE TRACE goes on");
        x = Due.told("s27;" + TWO + "m0 5 0 1 9 1 2 3 4;");
        x.keep(0);
        Due.sees(x, 1, 2, 3, 4).rate(0, 0);
        Due.years(x, 11).keep(1);
        x.drains(5);
        x.cuts(0);
        x.does(0);
        Due.due("moss()", Due.type(x, "s27;" + TWO + "m0 5 0 1 9 1 2 3 4;").moss(), 5);
        int[] now = {0, 7, 0, 0, 0, 0};
        for (int what = 0; what < 6; what++) {
            Due.due("now(" + what + ")", x.now(what), now[what]);
        }
        Due.due("cell(0, 0)", x.cell(0, 0), 0);
        Due.due("cell(0, 1)", x.cell(0, 1), 0);
        Due.due("left(2, 0), not DRIED", x.left(2, 0), 4);
        Due.due("count(4)", x.count(4), 0);
        Due.due("undo()", x.undo(), Due.STATE);
        Due.due("back(0)", x.back(0), Due.STATE);
        Due.due("back(1)", x.back(1), Due.STATE);
        Due.due("trace()", x.trace(), 1);
    }

    public static void main(String[] args) {
        cellsInARow();
        persons();
        dies();
        heir();
        promises();
        who();
        numbersOfAPromise();
        words();
        clashes();
        personOrPromiseThatThereIsNot();
        acidAndSlide();
        twoHundredLetters();
        blanks();
        items();
        tokens();
        firstLetterOfTheFirstToken();
        numberBeyond();
        numberAbove99();
        zeroAhead();
        endsTooEarly();
        aNewObject();
        typing();
        clearing();
        mossOfNothing();
        readAnew();
        Due.end();
    }
}
