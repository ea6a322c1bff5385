import java.util.ArrayList;
import java.util.List;

/**
 * What is refused changes nothing, which refusal comes first, and what holds for an object's 512 calls: two objects are
 * made alike, one is asked what is refused, and behind that both must answer all alike.
 */
public final class EdgesOfRefusals {
    private interface Make {
        MossPromises one();
    }

    private interface Call {
        long on(MossPromises x);
    }

    // ---- all that can be seen of an object

    private static List<Long> portrait(MossPromises x) {
        List<Long> all = new ArrayList<>();
        for (int i = -1; i <= 7; i++) {
            all.add((long) x.count(i));
            all.add((long) x.now(i));
            all.add((long) x.order(i));
        }
        for (int c = 0; c < 6; c++) {
            for (int what = 0; what < 4; what++) all.add((long) x.cell(c, what));
        }
        for (int m = 0; m < 5; m++) {
            for (int what = 0; what < 8; what++) all.add((long) x.promise(m, what));
            for (int k = 0; k < 4; k++) all.add((long) x.word(m, k));
            all.add((long) x.left(m, 0));
            all.add((long) x.left(m, 20));
            all.add((long) x.duty(m, 0));
        }
        for (int p = 0; p < 3; p++) {
            all.add((long) x.person(p, 0));
            all.add((long) x.person(p, 1));
        }
        all.add((long) x.fits());
        all.add((long) x.likely());
        all.add((long) x.kept(0));
        all.add((long) x.kept(1));
        all.add((long) x.drain(2));
        all.add(x.trace());
        return all;
    }

    /** What can be seen of an object's past and images alone: it is undone, and brought back, to the bottom. */
    private static List<Long> depths(MossPromises x) {
        List<Long> all = new ArrayList<>();
        for (int i = 0; i < 11; i++) {
            all.add((long) x.undo());
            outline(x, all);
        }
        for (int image = 1; image >= 0; image--) {
            all.add((long) x.back(image));
            outline(x, all);
        }
        all.add((long) x.forget());
        all.add((long) x.moss());
        all.add((long) x.clear());
        return all;
    }

    private static void outline(MossPromises x, List<Long> all) {
        for (int what = 0; what < 6; what++) all.add((long) x.now(what));
        for (int c = 0; c < 6; c++) all.add(x.cell(c, 0) * 10L + x.cell(c, 1));
    }

    private static void alike(String when, List<Long> got, List<Long> want) {
        for (int i = 0; i < want.size(); i++) {
            Due.due(when + ", behind it: answer " + i, got.get(i), want.get(i));
        }
    }

    private static void refused(String what, Make make, Call call, long want) {
        MossPromises x = make.one();
        Due.due(what, call.on(x), want);
        Due.due(what + " again", call.on(x), want);
        alike(what, portrait(x), portrait(make.one()));
        MossPromises y = make.one();
        call.on(y);
        alike(what, depths(y), depths(make.one()));
    }

    // ---- objects to be asked

    /** 0 is DONE, 1 clashes with it, 2 LIES, 3 is LOST; images, words, letters, a past of 8. */
    private static MossPromises busy() {
        MossPromises x = Due.told("a6;s8;p20 9;p3 0;m1 0 0 3 20 1 2 3;m0 0 0 2 9 1 2;m1 5 1 1 8 1 7;m0 2 0 1 9 4;x0 1;");
        x.keep(0);
        x.year();
        Due.cuts(x, 0, 6).does(0);
        x.year();
        x.keep(1);
        x.drains(5);
        x.year();
        x.drains(0);
        Due.sees(x, 1);
        x.rate(3, 2);
        return Due.type(x, "p1 9;q");
    }

    private static MossPromises fullOfSeen() {
        return Due.sees(busy(), 7, 8, 9);
    }

    private static MossPromises fullOfLetters() {
        return Due.type(Due.told("p1 9;"), Due.times("s1;", 66) + "qq");
    }

    private static MossPromises fresh() {
        return new MossPromises();
    }

    // ---- sentences

    private static void theObjectsAreAsToldHere() {
        Due.sentence("0 it LIES, 1 FOUND, 2 DONE, 3 LOST");
        MossPromises x = busy();
        int[] is = {2, 1, 0, 3};
        for (int m = 0; m < 4; m++) {
            Due.due("promise(" + m + ", 7)", x.promise(m, 7), is[m]);
        }
        Due.due("now(5)", x.now(5), 10);
        Due.due("cell(0, 1)", x.cell(0, 1), 0);
        Due.due("fullOfLetters().count(5)", fullOfLetters().count(5), 200);
        Due.due("fullOfSeen().count(4)", fullOfSeen().count(4), 4);
    }

    private static void badChangesNothing() {
        Due.sentence("Refused, and nothing changes, the first of these: BAD");
        int[] never = {-1, 256, Integer.MIN_VALUE, Integer.MAX_VALUE};
        for (int n : never) {
            refused("type(" + n + ")", EdgesOfRefusals::busy, x -> x.type(n), Due.BAD);
            refused("cuts(" + n + ")", EdgesOfRefusals::busy, x -> x.cuts(n), Due.BAD);
            refused("drains(" + n + ")", EdgesOfRefusals::busy, x -> x.drains(n), Due.BAD);
            refused("does(" + n + ")", EdgesOfRefusals::busy, x -> x.does(n), Due.BAD);
            refused("sees(" + n + ")", EdgesOfRefusals::busy, x -> x.sees(n), Due.BAD);
            refused("keep(" + n + ")", EdgesOfRefusals::busy, x -> x.keep(n), Due.BAD);
            refused("back(" + n + ")", EdgesOfRefusals::busy, x -> x.back(n), Due.BAD);
            refused("rate(0, " + n + ")", EdgesOfRefusals::busy, x -> x.rate(0, n), Due.NO);
            refused("rate(" + n + ", 0)", EdgesOfRefusals::busy, x -> x.rate(n, 0), Due.NO);
        }
        refused("cuts(6)", EdgesOfRefusals::busy, x -> x.cuts(6), Due.BAD);
        refused("drains(6)", EdgesOfRefusals::busy, x -> x.drains(6), Due.BAD);
        refused("does(4)", EdgesOfRefusals::busy, x -> x.does(4), Due.BAD);
        refused("sees(10)", EdgesOfRefusals::busy, x -> x.sees(10), Due.BAD);
        refused("keep(2)", EdgesOfRefusals::busy, x -> x.keep(2), Due.BAD);
        refused("back(2)", EdgesOfRefusals::busy, x -> x.back(2), Due.BAD);
        refused("rate(6, 0)", EdgesOfRefusals::busy, x -> x.rate(6, 0), Due.NO);
        refused("rate(0, 4)", EdgesOfRefusals::busy, x -> x.rate(0, 4), Due.NO);
    }

    private static void badQuestionsChangeNothing() {
        Due.sentence("BAD (a number is not as told, or there is no such thing)");
        refused("person(2, 0)", EdgesOfRefusals::busy, x -> x.person(2, 0), Due.BAD);
        refused("promise(4, 0)", EdgesOfRefusals::busy, x -> x.promise(4, 0), Due.BAD);
        refused("word(0, 4)", EdgesOfRefusals::busy, x -> x.word(0, 4), Due.BAD);
        refused("cell(6, 3)", EdgesOfRefusals::busy, x -> x.cell(6, 3), Due.BAD);
        refused("now(6)", EdgesOfRefusals::busy, x -> x.now(6), Due.BAD);
        refused("left(4, 0)", EdgesOfRefusals::busy, x -> x.left(4, 0), Due.BAD);
        refused("lasts(5, 1, 0)", EdgesOfRefusals::busy, x -> x.lasts(5, 1, 0), Due.BAD);
        refused("duty(4, 0)", EdgesOfRefusals::busy, x -> x.duty(4, 0), Due.BAD);
        refused("kept(2)", EdgesOfRefusals::busy, x -> x.kept(2), Due.BAD);
        refused("order(8)", EdgesOfRefusals::busy, x -> x.order(8), Due.BAD);
        refused("drain(21)", EdgesOfRefusals::busy, x -> x.drain(21), Due.BAD);
        refused("odds(11, 0, 0, 0)", EdgesOfRefusals::busy, x -> x.odds(11, 0, 0, 0), Due.BAD);
        refused("count(6)", EdgesOfRefusals::busy, x -> x.count(6), Due.BAD);
    }

    private static void stateChangesNothing() {
        Due.sentence("STATE (as told)");
        refused("cuts(0), 6 deep", EdgesOfRefusals::busy, x -> x.cuts(0), Due.STATE);
        refused("drains(0), dry", EdgesOfRefusals::busy, x -> x.drains(0), Due.STATE);
        refused("does(0), DONE", EdgesOfRefusals::busy, x -> x.does(0), Due.STATE);
        refused("does(1), a CLASH", EdgesOfRefusals::busy, x -> x.does(1), Due.STATE);
        refused("does(2), it LIES", EdgesOfRefusals::busy, x -> x.does(2), Due.STATE);
        refused("does(3), LOST", EdgesOfRefusals::busy, x -> x.does(3), Due.STATE);
        refused("undo(), none", EdgesOfRefusals::fresh, MossPromises::undo, Due.STATE);
        refused("back(0), none kept", EdgesOfRefusals::fresh, x -> x.back(0), Due.STATE);
        refused("back(1), none kept", EdgesOfRefusals::fullOfLetters, x -> x.back(1), Due.STATE);
    }

    private static void fullChangesNothing() {
        Due.sentence("FULL.");
        refused("sees(9), the fifth", EdgesOfRefusals::fullOfSeen, x -> x.sees(9), Due.FULL);
        refused("sees(0), the fifth", EdgesOfRefusals::fullOfSeen, x -> x.sees(0), Due.FULL);
        refused("type(59), the 201st", EdgesOfRefusals::fullOfLetters, x -> x.type(';'), Due.FULL);
        refused("type(0), the 201st", EdgesOfRefusals::fullOfLetters, x -> x.type(0), Due.FULL);
    }

    private static void theFirstOfThese() {
        Due.sentence("the first of these: BAD (a number is not as told, or there is no such thing), STATE (as told), FULL.");
        refused("sees(10), the fifth", EdgesOfRefusals::fullOfSeen, x -> x.sees(10), Due.BAD);
        refused("sees(-1), the fifth", EdgesOfRefusals::fullOfSeen, x -> x.sees(-1), Due.BAD);
        refused("type(256), the 201st", EdgesOfRefusals::fullOfLetters, x -> x.type(256), Due.BAD);
        refused("type(-1), the 201st", EdgesOfRefusals::fullOfLetters, x -> x.type(-1), Due.BAD);
        refused("back(2), none kept", EdgesOfRefusals::fresh, x -> x.back(2), Due.BAD);
        refused("does(0), there is none", EdgesOfRefusals::fresh, x -> x.does(0), Due.BAD);
        refused("drains(6), all dry", EdgesOfRefusals::fresh, x -> x.drains(6), Due.BAD);
    }

    private static void aFaultChangesNothing() {
        Due.sentence("-10 less FAULT: nothing changes (THE TEXT stays, too).");
        refused("moss()", EdgesOfRefusals::busy, MossPromises::moss, -10 - 5);
        refused("moss() of 200 letters", EdgesOfRefusals::fullOfLetters, MossPromises::moss, -10 - 3);
        // a fault far behind much that was read: nothing of it stays, and the next text is read as if it had not been
        Make much = () -> Due.type(Due.told("p7 9;m0 1 1 1 9 5;"), "a1;s1;p9 9;p9 0;m1 2 2 2 2 1 2;m0 3 3 3 3 3;x0 1;a");
        refused("moss() of much", much, MossPromises::moss, -10 - 49);
        MossPromises x = much.one();
        x.moss();
        x.clear();
        Due.type(x, "a2;s2;p5 9;m0 0 0 1 9 1;").moss();
        MossPromises y = Due.type(much.one(), "");
        y.clear();
        Due.type(y, "a2;s2;p5 9;m0 0 0 1 9 1;").moss();
        alike("a text behind a faulty one", portrait(x), portrait(y));
    }

    private static void noneOfTheQuestionsChangesAnything() {
        Due.sentence("nothing is changed.");
        MossPromises x = busy();
        alike("all questions, asked twice", portrait(x), portrait(x));
        MossPromises y = busy();
        portrait(y);
        y.lasts(4, 3, 9);
        y.odds(5, 6, 3, 0);
        y.drain(20);
        MossPromises z = busy();
        alike("all questions", depthsBriefly(y), depthsBriefly(z));
    }

    /** As depths, in so few calls that they, and a portrait, stay below 512. */
    private static List<Long> depthsBriefly(MossPromises x) {
        List<Long> all = new ArrayList<>();
        for (int i = 0; i < 11; i++) {
            all.add((long) x.undo());
            all.add((long) x.now(0));
            all.add((long) x.now(1));
            all.add(x.cell(0, 0) * 10L + x.cell(0, 1));
        }
        all.add((long) x.back(1));
        outline(x, all);
        all.add((long) x.back(0));
        outline(x, all);
        return all;
    }

    private static void theLastCall() {
        Due.sentence("An object is used for at most 512 calls after it has been made");
        MossPromises x = new MossPromises();
        for (int i = 1; i <= 200; i++) {
            Due.due("type(32)", x.type(' '), i);
        }
        Due.due("moss()", x.moss(), 0);
        for (int i = 0; i < 301; i++) {
            x.year();
        }
        // the next nine calls, up to the 511th, ask the same: the 512th answers as the first does
        for (int i = 0; i < 9; i++) {
            Due.due("now(0)", x.now(0), 301);
        }
        Due.due("undo(), the 512th call", x.undo(), 9);
        MossPromises full = new MossPromises();
        for (int i = 0; i < 512; i++) {
            Due.due("type(255), call " + (i + 1), full.type(255), i < 200 ? i + 1 : Due.FULL);
        }
    }

    private static void eachObjectForItself() {
        Due.sentence("`MossPromises()`: As told; no PERSONS, no PROMISES.");
        MossPromises one = busy();
        MossPromises other = new MossPromises();
        one.year();
        Due.due("now(0) of another", other.now(0), 0);
        Due.due("count(0) of another", other.count(0), 0);
        Due.due("trace() of another", other.trace(), 0);
        Due.due("back(0) of another", other.back(0), Due.STATE);
        alike("another object", portrait(busy()), portrait(busy()));
    }

    public static void main(String[] args) {
        theObjectsAreAsToldHere();
        badChangesNothing();
        badQuestionsChangeNothing();
        stateChangesNothing();
        fullChangesNothing();
        theFirstOfThese();
        aFaultChangesNothing();
        noneOfTheQuestionsChangesAnything();
        theLastCall();
        eachObjectForItself();
        Due.end();
    }
}
