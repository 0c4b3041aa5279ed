/** The third term's first part, promises 16 to 38: a test for each sentence that names an edge, headed by it. */
public final class EdgesOfReckoningTest {
    private static final int[] FAR = {Integer.MIN_VALUE, Integer.MIN_VALUE + 1, -3, -2, Integer.MAX_VALUE - 1, Integer.MAX_VALUE};

    public static void main(String[] args) {
        nothingIsDone();
        laterRange();
        overRange();
        overBy60();
        sinksRange();
        sinksOthers();
        firstBy60();
        firstOfEqual();
        homeRange();
        homeOthers();
        quietRange();
        whenRange();
        whenOthers();
        lostRange();
        fitsWhom();
        fitsOthers();
        couldReach();
        couldOthers();
        bestNobody();
        bestEach();
        bestNoneBehind();
        bestBelts();
        withAlone();
        bestOthers();
        needNobody();
        needNoSet();
        needTold();
        needLeast();
        latestRange();
        latestOthers();
        enoughEqual();
        enoughOthers();
        nearEqual();
        nearOthers();
        gapRange();
        gapOthers();
        rowAndDense();
        tightBelow();
        tightWho();
        spareWho();
        saveRefused();
        saveBySixty();
        worthWho();
        worthOthers();
        Due.end();
    }

    private static SilenceBall one(String kind, int at, int chin, int breath, int weighs, String more) {
        return Due.ball(Due.guest("g", kind, at, chin, breath, weighs) + more);
    }

    /** A guest SAFE, one SUNK and one IN it, with belts and a man who are all there. */
    private static SilenceBall gone() {
        SilenceBall ball = Due.ball(Due.guest("g", "shabby", 1, 1, 1, 1) + Due.guest("h", "plain", 5, 1, 1, 1) + Due.guest("i", "plain", 5, 40, 1, 1)
            + Due.belt("b", 40) + Due.man("m", 5, 9) + "water 9 ; rises 0 ;");
        ball.minute();
        Due.is("safe", ball.count(7), 1);
        Due.is("sunk", ball.count(8), 2);
        return ball;
    }

    /** Minutes going by: none of them goes by. */
    private static void nothingIsDone() {
        SilenceBall ball = Due.ball();
        ball.ask();
        ball.stop(1);
        ball.later(60);
        ball.over(60);
        ball.sinks(0);
        ball.first();
        ball.home(3);
        ball.quiet();
        ball.when(2);
        ball.lost(60);
        ball.latest(2);
        ball.save(0, 0, 0);
        ball.worth(0);
        ball.best(-1);
        ball.look();
        ball.holes();
        ball.chance(0, 6, 5);
        ball.balls(1, 99, 0);
        ball.judged(2);
        int[] due = {4, 3, 2, 0, 2, 4, 15, 0, 0, 7, 0, 0, 2, 0};
        for (int what = 0; what < 14; what++) {
            Due.is("count " + what, ball.count(what), due[what]);
        }
        Due.is("not free", ball.man(1, 2), 0);
        Due.is("free", ball.man(0, 2), 1);
        Due.is("where", ball.guest(3, 1), 2);
    }

    /** LATER: behind so many (0 to 60); NONE: others. */
    private static void laterRange() {
        SilenceBall ball = Due.ball("rises 1 ;");
        for (int n = 0; n <= 60; n++) {
            Due.is("later " + n, ball.later(n), n);
        }
        Due.is("others", ball.later(61), -1);
        Due.is("others", ball.later(-1), -1);
        for (int other : FAR) {
            Due.is("others", ball.later(other), -1);
        }
    }

    /** OVER: behind how many (0 to 60) it is so deep (0 to 60), or deeper; NONE: others. */
    private static void overRange() {
        SilenceBall ball = Due.ball("water 4 ; rises 3 ;");
        Due.is("0", ball.over(0), 0);
        Due.is("as deep as now", ball.over(4), 0);
        Due.is("deeper than now", ball.over(5), 1);
        Due.is("as deep as behind 1", ball.over(7), 1);
        Due.is("deeper", ball.over(8), 2);
        Due.is("60", ball.over(60), 19);
        Due.is("others", ball.over(61), -1);
        Due.is("others", ball.over(-1), -1);
        for (int other : FAR) {
            Due.is("others", ball.over(other), -1);
        }
        ball = Due.ball("water 9 ; rises 0 - 1 ;");
        Due.is("it was so deep", ball.over(9), 0);
        Due.is("0 is always so", Due.ball("").over(0), 0);
    }

    /** OVER: not by 60. */
    private static void overBy60() {
        SilenceBall ball = one("shabby", 1, 1, 1, 1, "rises 1 - talk ;");
        Due.is("behind 60", ball.over(60), 60);
        ball = one("shabby", 2, 1, 1, 1, "rises 1 - talk ;");
        Due.is("behind 60", ball.over(59), 60);
        Due.is("behind 61", ball.over(60), -1);
        ball.minute();
        Due.is("that is 60 now", ball.over(60), 60);
    }

    /** SINKS: in how many (1 to 60) a GUEST is SUNK; NONE: not by 60. */
    private static void sinksRange() {
        Due.is("the next", one("plain", 1, 1, 1, 1, "water 2 ;").sinks(0), 1);
        Due.is("by the second", one("plain", 1, 2, 1, 1, "water 2 ; rises 1 ;").sinks(0), 2);
        Due.is("60", Due.late(28, 9, "").sinks(0), 60);
        Due.is("61", Due.late(29, 9, "").sinks(0), -1);
        Due.is("60", Due.late(29, 8, "").sinks(0), 60);
        SilenceBall ball = Due.late(29, 9, "");
        ball.minute();
        Due.is("60 from now on", ball.sinks(0), 60);
    }

    /** SINKS NONE: others, not IN it. */
    private static void sinksOthers() {
        SilenceBall ball = gone();
        Due.is("SAFE", ball.sinks(0), -1);
        Due.is("SUNK", ball.sinks(1), -1);
        Due.is("never", ball.sinks(2), -1);
        Due.is("no fourth", ball.sinks(3), -1);
        Due.is("others", ball.sinks(-1), -1);
        for (int other : FAR) {
            Due.is("others", ball.sinks(other), -1);
        }
        Due.is("a waver", one("waver", 9, 1, 1, 1, "water 40 ;").sinks(0), -1);
    }

    /** FIRST: who is SUNK the soonest (by 60); NONE: nobody by 60. */
    private static void firstBy60() {
        Due.is("by 60", Due.slow(7).first(), 0);
        SilenceBall ball = Due.slow(8);
        Due.is("by 61", ball.first(), -1);
        ball.minute();
        Due.is("by 60 from now on", ball.first(), 0);
        Due.is("the next", one("plain", 1, 1, 1, 1, "water 2 ;").first(), 0);
        Due.is("nobody told", new SilenceBall().first(), -1);
        Due.is("nobody any more", gone().first(), -1);
    }

    /** FIRST: of equal ones the first. */
    private static void firstOfEqual() {
        String late = Due.guest("a", "plain", 9, 5, 2, 1);
        String soon = Due.guest("b", "plain", 9, 5, 1, 1);
        String soonToo = Due.guest("c", "heavy", 1, 5, 1, 1);
        Due.is("b and c", Due.ball(late + soon + soonToo + "water 6 ;").first(), 1);
        Due.is("c and b", Due.ball(soonToo + soon + late + "water 6 ;").first(), 0);
        StringBuilder text = new StringBuilder("water 6 ;");
        for (int g = 0; g < 6; g++) {
            text.append(Due.guest("g" + (char) ('a' + g), "plain", 9, 5, 6 - g, 1));
        }
        Due.is("the last", Due.ball(text.toString()).first(), 5);
    }

    /** HOME: in how many (1 to 60) a GUEST IN it is SAFE. */
    private static void homeRange() {
        for (int at = 1; at <= 9; at++) {
            Due.is("a shabby one", one("shabby", at, 1, 1, 1, "").home(0), at);
            SilenceBall ball = one("plain", at, 1, at, 9, "water 2 ;" + Due.belt("b", 8) + Due.man("m", at, 0));
            ball.cast(0, 0, 0);
            Due.is("by as many breaths as places", ball.home(0), -1);
            ball = one("plain", at, 1, Math.min(9, at + 1), 9, "water " + (at < 9 ? 2 : 1) + " ;" + Due.belt("b", 8) + Due.man("m", at, 0));
            ball.cast(0, 0, 0);
            Due.is("by one more", ball.home(0), at);
        }
    }

    /** HOME NONE: others, not IN it, not by 60. */
    private static void homeOthers() {
        SilenceBall ball = gone();
        Due.is("SAFE", ball.home(0), -1);
        Due.is("SUNK", ball.home(1), -1);
        Due.is("without a belt", ball.home(2), -1);
        Due.is("no fourth", ball.home(3), -1);
        Due.is("others", ball.home(-1), -1);
        for (int other : FAR) {
            Due.is("others", ball.home(other), -1);
        }
        ball.cast(0, 0, 2);
        Due.is("with one", ball.home(2), 5);
    }

    /** QUIET: behind how many (0 to 60) nobody is IN it; NONE: not by 60. */
    private static void quietRange() {
        Due.is("nobody told", new SilenceBall().quiet(), 0);
        Due.is("behind 1", one("shabby", 1, 1, 1, 1, "").quiet(), 1);
        Due.is("behind 60", Due.late(28, 9, "").quiet(), 60);
        SilenceBall ball = Due.late(29, 9, "");
        Due.is("behind 61", ball.quiet(), -1);
        ball.minute();
        Due.is("60 from now on", ball.quiet(), 60);
        Due.pass(ball, 60);
        Due.is("now", ball.quiet(), 0);
        Due.is("never", gone().quiet(), -1);
    }

    /** WHEN: behind how many (0 to 60) a GUEST CRIES; NONE: not by 60. */
    private static void whenRange() {
        Due.is("now", one("plain", 9, 5, 1, 1, "water 6 ;").when(0), 0);
        Due.is("behind 1", one("plain", 9, 5, 1, 1, "water 5 ; rises 1 ;").when(0), 1);
        Due.is("behind 60", Due.late(37, 9, "").when(0), 60);
        SilenceBall ball = Due.late(38, 9, "");
        Due.is("behind 61", ball.when(0), -1);
        ball.minute();
        Due.is("60 from now on", ball.when(0), 60);
        Due.is("a waver, too", one("waver", 9, 5, 1, 1, "water 5 ; rises 1 ;").when(0), 1);
        // with a belt he is sunk, or at the buffet, ahead of crying
        ball = one("heavy", 9, 5, 1, 1, "water 5 ; rises 1 ;" + Due.belt("b", 1) + Due.man("m", 9, 0));
        ball.cast(0, 0, 0);
        Due.is("with a belt", ball.when(0), -1);
    }

    /** WHEN NONE: others. */
    private static void whenOthers() {
        SilenceBall ball = gone();
        for (int g = -1; g <= 3; g++) {
            Due.is("nobody who cries", ball.when(g), -1);
        }
        for (int other : FAR) {
            Due.is("others", ball.when(other), -1);
        }
        Due.is("a shabby one", one("shabby", 9, 1, 1, 1, "water 40 ;").when(0), -1);
    }

    /** LOST: who is SUNK behind so many (0 to 60) (bits); NONE: others. */
    private static void lostRange() {
        SilenceBall ball = Due.late(28, 9, "");
        Due.is("behind 0", ball.lost(0), 0);
        Due.is("behind 8", ball.lost(8), 0);
        Due.is("behind 9", ball.lost(9), 2);
        Due.is("behind 59", ball.lost(59), 14);
        Due.is("behind 60", ball.lost(60), 15);
        Due.is("others", ball.lost(61), -1);
        Due.is("others", ball.lost(-1), -1);
        for (int other : FAR) {
            Due.is("others", ball.lost(other), -1);
        }
        Due.pass(ball, 9);
        Due.is("behind 0, with who is SUNK", ball.lost(0), 2);
        Due.is("nobody told", new SilenceBall().lost(60), 0);
    }

    /** FITS of a BELT: GUESTS IN it, not shabby, whom it BEARS (bits). */
    private static void fitsWhom() {
        SilenceBall ball = Due.ball(Due.guest("g", "plain", 9, 9, 1, 10) + Due.guest("h", "plain", 9, 9, 1, 11) + Due.guest("i", "heavy", 9, 9, 1, 5)
            + Due.guest("j", "heavy", 9, 9, 1, 6) + Due.guest("k", "waver", 9, 9, 1, 10) + Due.guest("l", "shabby", 9, 9, 1, 1)
            + Due.belt("b", 9) + Due.belt("c", 10) + Due.belt("d", 11) + Due.man("m", 9, 0));
        Due.is("9", ball.fits(0), 0);
        Due.is("10", ball.fits(1), 21);
        Due.is("11", ball.fits(2), 31);
        ball.cast(0, 1, 0);
        Due.is("with a belt or without, on the wall or not", ball.fits(1), 21);
        Due.is("not the SAFE, not the SUNK", gone().fits(0), 4);
    }

    /** FITS NONE: others. */
    private static void fitsOthers() {
        SilenceBall ball = gone();
        Due.is("no second", ball.fits(1), -1);
        Due.is("others", ball.fits(-1), -1);
        for (int other : FAR) {
            Due.is("others", ball.fits(other), -1);
        }
        Due.is("none told", new SilenceBall().fits(0), -1);
        Due.is("nobody told", Due.ball(Due.belt("b", 1)).fits(0), 0);
    }

    /** COULD: GUESTS to whom he could CAST now, were there a BELT (bits; 0: he is not FREE). */
    private static void couldReach() {
        StringBuilder text = new StringBuilder(Due.man("m", 5, 2) + Due.man("n", 0, 9) + Due.man("o", 9, 0) + "holes 9 ;");
        for (int g = 0; g < 6; g++) {
            text.append(Due.guest("g" + (char) ('a' + g), "waver", g + 2, 9, 1, 30));
        }
        SilenceBall ball = Due.ball(text.toString());
        Due.is("3 to 7, though no belt is told", ball.could(0), 62);
        Due.is("all", ball.could(1), 63);
        Due.is("nobody", ball.could(2), 0);
        ball.stop(0);
        Due.is("not FREE", ball.could(0), 0);
        Due.is("another is", ball.could(1), 63);
        Due.is("not the SAFE, not the SUNK", gone().could(0), 4);
        Due.is("not the shabby", one("shabby", 5, 1, 1, 1, Due.man("m", 5, 0)).could(0), 0);
        ball = Due.ball();
        ball.cast(1, 1, 2);
        Due.is("has cast", ball.could(1), 0);
        ball.minute();
        Due.is("not who has one", ball.could(1), 2);
    }

    /** COULD NONE: others. */
    private static void couldOthers() {
        SilenceBall ball = gone();
        Due.is("no second", ball.could(1), -1);
        Due.is("others", ball.could(-1), -1);
        for (int other : FAR) {
            Due.is("others", ball.could(other), -1);
        }
        Due.is("none told", new SilenceBall().could(0), -1);
    }

    private static void rowIs(String told, SilenceBall ball, int many, int[] guests, int[] belts) {
        Due.is(told, ball.best(-1), many);
        for (int m = 0; m < guests.length; m++) {
            Due.is(told + ": to whom " + m, ball.best(m), guests[m]);
            Due.is(told + ": which " + m, ball.with(m), belts[m]);
        }
    }

    /** BEST: each who CRIES, by a FREE MAN who reaches them, a BELT on the wall that BEARS them: else nobody, none. */
    private static void bestNobody() {
        String man = Due.man("m", 5, 0);
        String belt = Due.belt("b", 5);
        int[] none = {-1};
        rowIs("one", one("plain", 5, 5, 1, 5, "water 6 ;" + man + belt), 1, new int[] {0}, new int[] {0});
        rowIs("does not cry", one("plain", 5, 5, 1, 5, "water 5 ;" + man + belt), 0, none, none);
        rowIs("shabby", one("shabby", 5, 5, 1, 5, "water 6 ;" + man + belt), 0, none, none);
        rowIs("not borne", one("plain", 5, 5, 1, 6, "water 6 ;" + man + belt), 0, none, none);
        rowIs("not borne by 5 more", one("heavy", 5, 5, 1, 5, "water 6 ;" + man + belt), 0, none, none);
        rowIs("not reached", one("plain", 6, 5, 1, 5, "water 6 ;" + man + belt), 0, none, none);
        rowIs("no belt", one("plain", 5, 5, 1, 5, "water 6 ;" + man), 0, none, none);
        SilenceBall ball = one("plain", 5, 5, 1, 5, "water 6 ; holes 1 ;" + man + belt);
        ball.stop(0);
        rowIs("not free", ball, 0, none, none);
        Due.is("nobody told", new SilenceBall().best(-1), 0);
        ball = Due.ball(Due.guest("g", "plain", 5, 9, 9, 1) + Due.guest("h", "plain", 5, 5, 9, 1) + "water 6 ;" + belt + man + Due.man("n", 5, 0));
        ball.cast(1, 0, 0);
        rowIs("not on the wall", ball, 0, new int[] {-1, -1}, new int[] {-1, -1});
    }

    private static String three(int men, int belts) {
        StringBuilder text = new StringBuilder("water 9 ;");
        for (int g = 0; g < 3; g++) {
            text.append(Due.guest("g" + (char) ('a' + g), "plain", 5, 1, 9, 1));
        }
        for (int m = 0; m < men; m++) {
            text.append(Due.man("m" + (char) ('a' + m), 5, 0));
        }
        for (int b = 0; b < belts; b++) {
            text.append(Due.belt("b" + (char) ('a' + b), 1));
        }
        return text.toString();
    }

    /** BEST: each MAN once, each BELT on the wall once: the most, and the first row. */
    private static void bestEach() {
        rowIs("three", Due.ball(three(3, 3)), 3, new int[] {0, 1, 2}, new int[] {0, 1, 2});
        rowIs("two men", Due.ball(three(2, 5)), 2, new int[] {0, 1}, new int[] {0, 1});
        rowIs("two belts", Due.ball(three(3, 2)), 2, new int[] {0, 1, -1}, new int[] {0, 1, -1});
        rowIs("one belt", Due.ball(three(3, 1)), 1, new int[] {0, -1, -1}, new int[] {0, -1, -1});
        rowIs("no belts", Due.ball(three(3, 0)), 0, new int[] {-1, -1, -1}, new int[] {-1, -1, -1});
        String pairs = "water 9 ;" + Due.belt("b", 1) + Due.belt("c", 1) + Due.man("m", 5, 0) + Due.man("n", 5, 0);
        rowIs("each guest once", one("plain", 5, 1, 9, 1, pairs), 1, new int[] {0, -1}, new int[] {0, -1});
        rowIs("each guest once", one("shabby", 5, 1, 9, 1, pairs + Due.guest("h", "plain", 5, 1, 9, 1)), 1, new int[] {1, -1}, new int[] {0, -1});
        Due.is("no men", Due.ball(three(0, 3)).best(-1), 0);
        SilenceBall ball = Due.ball(three(3, 3));
        ball.cast(1, 0, 1);
        rowIs("what one has is no other's", ball, 2, new int[] {0, -1, 2}, new int[] {1, -1, 2});
    }

    /** BEST: none comes behind all others (of GUESTS, by MEN). */
    private static void bestNoneBehind() {
        // m reaches both, n the first: both can be cast to only if m leaves the first to n
        String guests = "water 9 ;" + Due.guest("a", "plain", 1, 1, 9, 1) + Due.guest("b", "plain", 2, 1, 9, 1) + Due.belt("c", 1) + Due.belt("d", 1);
        rowIs("the most goes ahead of the first", Due.ball(guests + Due.man("m", 1, 1) + Due.man("n", 1, 0)), 2, new int[] {1, 0}, new int[] {0, 1});
        rowIs("none ahead", Due.ball(guests + Due.man("m", 9, 0) + Due.man("n", 1, 1)), 1, new int[] {-1, 0}, new int[] {-1, 0});
        // one belt bears only b: the last guest comes ahead of none
        String heavy = "water 9 ;" + Due.guest("a", "plain", 1, 1, 9, 2) + Due.guest("b", "plain", 1, 1, 9, 1) + Due.belt("c", 1);
        rowIs("the last guest", Due.ball(heavy + Due.man("m", 1, 0) + Due.man("n", 1, 0)), 1, new int[] {1, -1}, new int[] {0, -1});
    }

    /** BEST: which BELT, of these rows the first one (of BELTS, by MEN; none behind all others). */
    private static void bestBelts() {
        String guests = "water 9 ;" + Due.guest("a", "plain", 1, 1, 9, 5) + Due.guest("b", "plain", 1, 1, 9, 9) + Due.man("m", 1, 0) + Due.man("n", 1, 0);
        rowIs("the first that bears", Due.ball(guests + Due.belt("c", 4) + Due.belt("d", 9) + Due.belt("e", 9)), 2, new int[] {0, 1}, new int[] {1, 2});
        rowIs("left to the heavier", Due.ball(guests + Due.belt("c", 9) + Due.belt("d", 5) + Due.belt("e", 5)), 2, new int[] {0, 1}, new int[] {1, 0});
        rowIs("not the lightest, but the first", Due.ball(guests + Due.belt("c", 40) + Due.belt("d", 9) + Due.belt("e", 5)), 2, new int[] {0, 1},
            new int[] {0, 1});
        rowIs("the fifth", Due.ball(guests + Due.belt("c", 1) + Due.belt("d", 2) + Due.belt("e", 3) + Due.belt("f", 4) + Due.belt("g", 5)), 1,
            new int[] {0, -1}, new int[] {4, -1});
    }

    /** WITH and BEST of a MAN are as all is now, whatever was asked ahead. */
    private static void withAlone() {
        Due.is("the first that is asked", Due.ball(three(1, 1)).with(0), 0);
        Due.is("the first that is asked", Due.ball(three(1, 1)).best(0), 0);
        SilenceBall ball = Due.ball(three(2, 2));
        Due.is("the second belt", ball.with(1), 1);
        ball.cast(0, 0, 0);
        Due.is("he is not free", ball.with(0), -1);
        Due.is("the second belt to another", ball.with(1), 1);
        Due.is("the second guest", ball.best(1), 1);
        ball.cast(1, 1, 1);
        Due.is("none", ball.with(1), -1);
        ball.undo();
        Due.is("again", ball.with(1), 1);
    }

    /** BEST, WITH -2: others. */
    private static void bestOthers() {
        SilenceBall ball = Due.ball();
        Due.is("no third", ball.best(2), -2);
        Due.is("no third", ball.with(2), -2);
        Due.is("NONE is no man", ball.with(-1), -2);
        for (int other : FAR) {
            Due.is("others", ball.best(other), -2);
            Due.is("others", ball.with(other), -2);
        }
        Due.is("none told", new SilenceBall().best(0), -2);
        Due.is("none told", new SilenceBall().with(0), -2);
        Due.is("nothing is cast", ball.count(9), 7);
    }

    /** NEED: as many as there are who CRY (bits; 0: nobody CRIES). */
    private static void needNobody() {
        Due.is("nobody told", new SilenceBall().need(), 0);
        Due.is("as deep as the chin", one("plain", 5, 9, 1, 1, "water 9 ;" + Due.belt("b", 9)).need(), 0);
        Due.is("a shabby one", one("shabby", 5, 1, 1, 1, "water 9 ;" + Due.belt("b", 9)).need(), 0);
        Due.is("a waver cries", one("waver", 5, 1, 1, 1, "water 9 ;" + Due.belt("b", 9)).need(), 1);
        SilenceBall ball = gone();
        Due.is("the SAFE, the SUNK", ball.need(), 0);
    }

    private static String criers(int many) {
        StringBuilder text = new StringBuilder("water 9 ;");
        for (int g = 0; g < many; g++) {
            text.append(Due.guest("g" + (char) ('a' + g), "plain", 5, 1, 9, g + 1));
        }
        return text.toString();
    }

    /** NEED NONE: there is no such set. */
    private static void needNoSet() {
        StringBuilder five = new StringBuilder();
        for (int b = 0; b < 5; b++) {
            five.append(Due.belt("b" + (char) ('a' + b), 5 - b));
        }
        Due.is("five of five", Due.ball(criers(5) + five).need(), 31);
        Due.is("six of five", Due.ball(criers(6) + five).need(), -1);
        Due.is("one of none", Due.ball(criers(1)).need(), -1);
        Due.is("too light by 1", Due.ball(criers(2) + Due.belt("b", 1) + Due.belt("c", 1)).need(), -1);
        Due.is("just enough", Due.ball(criers(2) + Due.belt("b", 1) + Due.belt("c", 2)).need(), 3);
        Due.is("no two the same", Due.ball(criers(2) + Due.belt("b", 40)).need(), -1);
        Due.is("5 more", one("heavy", 5, 1, 9, 1, "water 9 ;" + Due.belt("b", 5)).need(), -1);
        Due.is("5 more", one("heavy", 5, 1, 9, 1, "water 9 ;" + Due.belt("b", 6)).need(), 1);
    }

    /** NEED: of all sets of BELTS told, on the wall or not. */
    private static void needTold() {
        SilenceBall ball = Due.ball("water 9 ;" + Due.guest("g", "plain", 5, 1, 9, 1) + Due.guest("h", "plain", 5, 1, 9, 1) + Due.belt("b", 1) + Due.belt("c", 2)
            + Due.man("m", 5, 0));
        ball.cast(0, 0, 0);
        Due.is("what another has", ball.need(), 1);
    }

    /** NEED: the one that bears the least, together; of equal ones the least set. */
    private static void needLeast() {
        Due.is("the last bears the least", Due.ball(criers(1) + Due.belt("b", 9) + Due.belt("c", 8) + Due.belt("d", 7)).need(), 4);
        Due.is("of equal ones the first", Due.ball(criers(1) + Due.belt("b", 9) + Due.belt("c", 7) + Due.belt("d", 7)).need(), 2);
        Due.is("the first two of three", Due.ball(criers(2) + Due.belt("b", 3) + Due.belt("c", 2) + Due.belt("d", 2) + Due.belt("e", 2)).need(), 6);
        Due.is("the first and the third", Due.ball(criers(2) + Due.belt("b", 2) + Due.belt("c", 3) + Due.belt("d", 2) + Due.belt("e", 2)).need(), 5);
        Due.is("1 and 2 of 3, 1, 4, 2", Due.ball(criers(2) + Due.belt("b", 3) + Due.belt("c", 1) + Due.belt("d", 4) + Due.belt("e", 2)).need(), 10);
        Due.is("one that bears none of them is none", Due.ball(criers(3) + Due.belt("b", 1) + Due.belt("c", 1) + Due.belt("d", 3) + Due.belt("e", 3)).need(), 13);
    }

    /** LATEST: one less than in how many MINUTES they are SUNK; 60 if they are not by 60. */
    private static void latestRange() {
        String belt = Due.belt("b", 40);
        Due.is("by the next", one("plain", 5, 1, 1, 1, "water 2 ;" + belt).latest(0), 0);
        Due.is("by the second", one("plain", 5, 1, 2, 1, "water 2 ;" + belt).latest(0), 1);
        Due.is("by the sixtieth", Due.late(28, 9, belt).latest(0), 59);
        Due.is("by the sixty-first", Due.late(29, 9, belt).latest(0), 60);
        Due.is("never", one("plain", 5, 2, 1, 1, "water 2 ;" + belt).latest(0), 60);
        Due.is("a waver", one("waver", 5, 1, 1, 1, "water 2 ;" + belt).latest(0), 60);
        Due.is("a shabby one", one("shabby", 5, 1, 1, 1, "water 2 ;" + belt).latest(0), 60);
    }

    /** LATEST NONE: others, not IN it, no BELT told BEARS them. */
    private static void latestOthers() {
        SilenceBall ball = gone();
        Due.is("SAFE", ball.latest(0), -1);
        Due.is("SUNK", ball.latest(1), -1);
        Due.is("IN it", ball.latest(2), 60);
        Due.is("no fourth", ball.latest(3), -1);
        Due.is("others", ball.latest(-1), -1);
        for (int other : FAR) {
            Due.is("others", ball.latest(other), -1);
        }
        Due.is("no belt", one("plain", 5, 1, 1, 1, "water 2 ;").latest(0), -1);
        Due.is("1 too light", one("plain", 5, 1, 1, 9, "water 2 ;" + Due.belt("b", 8)).latest(0), -1);
        Due.is("just enough", one("plain", 5, 1, 1, 9, "water 2 ;" + Due.belt("b", 9)).latest(0), 0);
        Due.is("a heavy one", one("heavy", 5, 1, 1, 9, "water 2 ;" + Due.belt("b", 13)).latest(0), -1);
    }

    /** ENOUGH: the BELT that BEARS them that bears the least; of equal ones the first. */
    private static void enoughEqual() {
        String guest = Due.guest("g", "plain", 5, 1, 9, 9);
        Due.is("just enough", Due.ball(guest + Due.belt("b", 10) + Due.belt("c", 9) + Due.belt("d", 8)).enough(0), 1);
        Due.is("of equal ones the first", Due.ball(guest + Due.belt("b", 11) + Due.belt("c", 10) + Due.belt("d", 10)).enough(0), 1);
        Due.is("the last", Due.ball(guest + Due.belt("b", 8) + Due.belt("c", 40) + Due.belt("d", 39)).enough(0), 2);
        SilenceBall ball = Due.ball(guest + Due.belt("b", 9) + Due.belt("c", 10) + Due.man("m", 5, 0));
        ball.cast(0, 0, 0);
        Due.is("on the wall or not", ball.enough(0), 0);
    }

    /** ENOUGH NONE: others, none. */
    private static void enoughOthers() {
        Due.is("1 too light", one("plain", 5, 1, 1, 9, Due.belt("b", 8)).enough(0), -1);
        Due.is("no belts", one("plain", 5, 1, 1, 9, "").enough(0), -1);
        Due.is("the heaviest", one("heavy", 5, 1, 1, 30, Due.belt("b", 34)).enough(0), -1);
        Due.is("the heaviest", one("heavy", 5, 1, 1, 30, Due.belt("b", 35)).enough(0), 0);
        SilenceBall ball = gone();
        Due.is("no fourth", ball.enough(3), -1);
        Due.is("others", ball.enough(-1), -1);
        for (int other : FAR) {
            Due.is("others", ball.enough(other), -1);
        }
        for (int g = 0; g < 3; g++) {
            Due.is("IN it or not", ball.enough(g), 0);
        }
    }

    /** NEAR: the MAN who is the nearest; of equal ones the first. */
    private static void nearEqual() {
        String guest = Due.guest("g", "plain", 5, 1, 9, 9);
        Due.is("the last", Due.ball(guest + Due.man("m", 9, 9) + Due.man("n", 2, 9) + Due.man("o", 7, 0)).near(0), 2);
        Due.is("on either side", Due.ball(guest + Due.man("m", 9, 0) + Due.man("n", 7, 0) + Due.man("o", 3, 0)).near(0), 1);
        Due.is("at his place", Due.ball(guest + Due.man("m", 4, 0) + Due.man("n", 6, 0) + Due.man("o", 5, 0)).near(0), 2);
        Due.is("all alike", Due.ball(guest + Due.man("m", 0, 0) + Due.man("n", 0, 9) + Due.man("o", 0, 0)).near(0), 0);
    }

    /** NEAR NONE: others, no MEN. */
    private static void nearOthers() {
        Due.is("no men", one("plain", 5, 1, 1, 9, "").near(0), -1);
        SilenceBall ball = gone();
        Due.is("no fourth", ball.near(3), -1);
        Due.is("others", ball.near(-1), -1);
        for (int other : FAR) {
            Due.is("others", ball.near(other), -1);
        }
        for (int g = 0; g < 3; g++) {
            Due.is("IN it or not", ball.near(g), 0);
        }
    }

    /** GAP of two GUESTS: how far they are apart. */
    private static void gapRange() {
        SilenceBall ball = Due.ball(Due.guest("g", "shabby", 1, 1, 1, 1) + Due.guest("h", "plain", 9, 40, 1, 1) + Due.guest("i", "plain", 9, 40, 1, 1));
        Due.is("from end to end", ball.gap(0, 1), 8);
        Due.is("the other way", ball.gap(1, 0), 8);
        Due.is("at one place", ball.gap(1, 2), 0);
        ball.minute();
        Due.is("from the buffet", ball.gap(1, 0), 9);
    }

    /** GAP NONE: others, the same. */
    private static void gapOthers() {
        SilenceBall ball = gone();
        for (int g = -1; g <= 3; g++) {
            Due.is("the same", ball.gap(g, g), -1);
            Due.is("no fourth", ball.gap(g, 3), -1);
            Due.is("no fourth", ball.gap(3, g), -1);
            Due.is("others", ball.gap(g, -1), -1);
            Due.is("others", ball.gap(-1, g), -1);
            for (int other : FAR) {
                Due.is("others", ball.gap(g, other), -1);
                Due.is("others", ball.gap(other, g), -1);
            }
        }
        Due.is("SUNK", ball.gap(1, 2), 0);
        Due.is("SAFE", ball.gap(0, 2), 5);
    }

    /** ROW: the most GUESTS IN it at one place; DENSE: that place, of equal ones the first; NONE: nobody is IN it. */
    private static void rowAndDense() {
        Due.is("nobody", new SilenceBall().row(), 0);
        Due.is("nobody", new SilenceBall().dense(), -1);
        for (int at = 1; at <= 9; at++) {
            StringBuilder text = new StringBuilder();
            for (int g = 0; g < 6; g++) {
                text.append(Due.guest("g" + (char) ('a' + g), g == 5 ? "shabby" : "plain", at, 9, 9, 1));
            }
            SilenceBall ball = Due.ball(text.toString());
            Due.is("all at " + at, ball.row(), 6);
            Due.is("all at " + at, ball.dense(), at);
        }
        String two = Due.guest("g", "plain", 9, 9, 9, 1) + Due.guest("h", "plain", 1, 9, 9, 1);
        Due.is("one each", Due.ball(two).row(), 1);
        Due.is("of equal ones the first place", Due.ball(two).dense(), 1);
        Due.is("not of the first one", Due.ball(two + Due.guest("i", "plain", 9, 9, 9, 1)).dense(), 9);
        SilenceBall ball = gone();
        Due.is("not the SAFE, not the SUNK", ball.row(), 1);
        Due.is("not the SAFE, not the SUNK", ball.dense(), 5);
        ball = Due.ball(Due.guest("g", "shabby", 1, 1, 1, 1) + Due.guest("h", "plain", 1, 1, 1, 1) + "water 9 ;");
        ball.minute();
        Due.is("nobody any more", ball.row(), 0);
        Due.is("nobody any more", ball.dense(), -1);
    }

    /** TIGHT: the GUEST whose chin is the least far above it (less than 0: below it); of equal ones the first. */
    private static void tightBelow() {
        String low = Due.guest("g", "plain", 9, 5, 9, 1);
        String high = Due.guest("h", "plain", 9, 9, 9, 1);
        for (int water : new int[] {0, 5, 7, 9, 40}) {
            Due.is("the low one", Due.ball(low + high + "water " + water + " ;").tight(), 0);
            Due.is("the low one", Due.ball(high + low + "water " + water + " ;").tight(), 1);
        }
        Due.is("of equal ones the first", Due.ball(high + low + Due.guest("i", "heavy", 1, 5, 1, 1)).tight(), 1);
    }

    /** TIGHT: IN it, not a waver, not shabby, without a BELT; NONE: nobody such. */
    private static void tightWho() {
        Due.is("nobody told", new SilenceBall().tight(), -1);
        Due.is("a waver", one("waver", 9, 1, 1, 1, "").tight(), -1);
        Due.is("a shabby one", one("shabby", 9, 1, 1, 1, "").tight(), -1);
        Due.is("a heavy one", one("heavy", 9, 1, 1, 1, "").tight(), 0);
        Due.is("not the SAFE, not the SUNK", gone().tight(), 2);
        SilenceBall ball = one("plain", 1, 1, 1, 30, Due.belt("b", 1) + Due.man("m", 1, 0));
        ball.cast(0, 0, 0);
        Due.is("with a belt, though it does not bear", ball.tight(), -1);
        ball.minute();
        Due.is("SAFE", ball.tight(), -1);
        ball = one("plain", 1, 1, 1, 30, "water 2 ;");
        ball.minute();
        Due.is("SUNK", ball.tight(), -1);
    }

    /** SPARE: BELTS on the wall that BEAR nobody IN it but the shabby (bits). */
    private static void spareWho() {
        Due.is("none told", new SilenceBall().spare(), 0);
        Due.is("nobody told", Due.ball(Due.belt("b", 1) + Due.belt("c", 40)).spare(), 3);
        String belts = Due.belt("b", 8) + Due.belt("c", 9) + Due.belt("d", 14);
        Due.is("a plain one of 9", one("plain", 5, 40, 1, 9, belts).spare(), 1);
        Due.is("a heavy one of 9", one("heavy", 5, 40, 1, 9, belts).spare(), 3);
        Due.is("a waver of 9", one("waver", 5, 40, 1, 9, belts).spare(), 1);
        Due.is("a shabby one of 9", one("shabby", 5, 40, 1, 9, belts).spare(), 7);
        SilenceBall ball = one("plain", 1, 40, 1, 9, belts + Due.man("m", 1, 0));
        ball.cast(0, 0, 0);
        Due.is("not on the wall", ball.spare(), 0);
        ball.minute();
        Due.is("SAFE", ball.spare(), 7);
        ball = one("plain", 1, 1, 1, 9, belts + "water 2 ;");
        ball.minute();
        Due.is("SUNK", ball.spare(), 7);
    }

    private static SilenceBall ready(int weighs) {
        return Due.ball(Due.guest("g", "plain", 5, 1, 1, weighs) + Due.guest("h", "shabby", 5, 1, 1, 1) + Due.guest("i", "plain", 5, 40, 9, 1)
            + Due.belt("b", 9) + Due.belt("c", 8) + Due.man("m", 5, 0) + Due.man("n", 6, 0) + "holes 1 ; water 2 ;");
    }

    /** SAVE: whether that MAN can CAST that BELT to them now; false: others, it can't be. */
    private static void saveRefused() {
        Due.is("can be", ready(9).save(0, 0, 0), true);
        Due.is("does not bear", ready(9).save(0, 0, 1), false);
        Due.is("not yet in need", ready(9).save(2, 0, 1), true);
        Due.is("shabby", ready(9).save(1, 0, 0), false);
        Due.is("not reached", ready(9).save(0, 1, 0), false);
        Due.is("no such guest", ready(9).save(3, 0, 0), false);
        Due.is("no such man", ready(9).save(0, 2, 0), false);
        Due.is("no such belt", ready(9).save(0, 0, 2), false);
        for (int other : FAR) {
            Due.is("no such guest", ready(9).save(other, 0, 0), false);
            Due.is("no such man", ready(9).save(0, other, 0), false);
            Due.is("no such belt", ready(9).save(0, 0, other), false);
        }
        Due.is("NONE", ready(9).save(-1, 0, 0) || ready(9).save(0, -1, 0) || ready(9).save(0, 0, -1), false);
        SilenceBall ball = ready(9);
        ball.stop(0);
        Due.is("not free", ball.save(0, 0, 0), false);
        ball = ready(9);
        ball.cast(0, 0, 2);
        ball.undo();
        Due.is("free again", ball.save(0, 0, 0), true);
        ball.cast(0, 0, 2);
        ball.minute();
        Due.is("SUNK", ball.save(0, 0, 1), false);
        Due.is("has one", ball.save(2, 0, 1), false);
        ball = gone();
        Due.is("SAFE", ball.save(0, 0, 0), false);
        Due.is("SUNK", ball.save(1, 0, 0), false);
    }

    /** SAVE: and they are then not SUNK by 60. */
    private static void saveBySixty() {
        String more = Due.belt("b", 8) + Due.man("m", 5, 9) + "water 2 ;";
        for (int at = 1; at <= 8; at++) {
            Due.is("by as many breaths as places", one("plain", at, 1, at, 9, more).save(0, 0, 0), false);
            Due.is("by one more", one("plain", at, 1, at + 1, 9, more).save(0, 0, 0), true);
            Due.is("it bears", one("plain", at, 1, 1, 8, more).save(0, 0, 0), true);
        }
        Due.is("a waver", one("waver", 9, 1, 1, 9, more).save(0, 0, 0), true);
        // sunk in the very last minute ahead of the buffet
        Due.is("from the far end", one("plain", 9, 1, 9, 9, more).save(0, 0, 0), false);
        Due.is("a minute later", one("plain", 9, 2, 9, 9, more + "rises 1 ;").save(0, 0, 0), true);
        // the first guest is SAFE, the second is not by that
        SilenceBall ball = Due.ball(Due.guest("g", "shabby", 1, 1, 1, 1) + Due.guest("h", "plain", 4, 1, 4, 9) + Due.guest("i", "plain", 4, 1, 5, 9) + more);
        ball.minute();
        Due.is("SUNK with it on", ball.save(1, 0, 0), false);
        Due.is("one breath too few", ball.save(2, 0, 0), false);
        ball.undo();
        Due.is("SUNK with it on", ball.save(1, 0, 0), false);
        Due.is("SAFE by a breath", ball.save(2, 0, 0), true);
    }

    /** WORTH: SUNK by 60 if nothing is done, and whom he SAVES by the BELT that ENOUGH tells (it must be able to be), each alone. */
    private static void worthWho() {
        String more = Due.belt("b", 40) + Due.man("m", 9, 0);
        Due.is("SUNK in 60", Due.late(28, 9, more).worth(0), 1);
        Due.is("SUNK in 61", Due.late(29, 9, more).worth(0), 0);
        Due.is("each alone", Due.late(28, 9, Due.belt("b", 40) + Due.man("m", 5, 4)).worth(0), 4);
        Due.is("no belt", Due.late(28, 9, Due.man("m", 9, 0)).worth(0), 0);
        String sinks = Due.guest("g", "plain", 5, 1, 1, 9) + "water 2 ;" + Due.man("m", 5, 0) + Due.man("n", 4, 0);
        Due.is("none bears", Due.ball(sinks + Due.belt("b", 8)).worth(0), 0);
        Due.is("one does", Due.ball(sinks + Due.belt("b", 9)).worth(0), 1);
        Due.is("too far", Due.ball(sinks + Due.belt("b", 9)).worth(1), 0);
        SilenceBall ball = Due.ball(sinks + Due.belt("b", 9) + Due.belt("c", 10) + Due.guest("h", "plain", 4, 40, 1, 9));
        ball.cast(1, 0, 1);
        Due.is("ENOUGH is not on the wall, though another is", ball.worth(0), 0);
        ball.undo();
        Due.is("it is", ball.worth(0), 1);
        Due.is("nobody is sunk", one("waver", 5, 1, 1, 1, "water 2 ;" + Due.belt("b", 9) + Due.man("m", 5, 0)).worth(0), 0);
        Due.is("not who is SUNK already", gone().worth(0), 0);
        Due.is("nobody told", Due.ball(Due.man("m", 5, 0)).worth(0), 0);
    }

    /** WORTH NONE: others; he is not FREE: nobody. */
    private static void worthOthers() {
        SilenceBall ball = Due.ball();
        Due.is("no third", ball.worth(2), -1);
        Due.is("others", ball.worth(-1), -1);
        for (int other : FAR) {
            Due.is("others", ball.worth(other), -1);
        }
        Due.is("none told", new SilenceBall().worth(0), -1);
        ball.stop(0);
        Due.is("not FREE", ball.worth(0), 0);
        ball.minute();
        Due.is("FREE", ball.worth(0), 1);
    }
}
