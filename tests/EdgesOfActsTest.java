/** The second term, promises 5 to 15, 45 and 46: a test for each sentence that names an edge, headed by it. */
public final class EdgesOfActsTest {
    private static final int[] FAR = {Integer.MIN_VALUE, Integer.MIN_VALUE + 1, -3, -2, -1, Integer.MAX_VALUE - 1, Integer.MAX_VALUE};

    public static void main(String[] args) {
        weight();
        bears();
        underByDepth();
        underByBelt();
        wavers();
        cries();
        free();
        freeEachAlone();
        castRefused();
        castGone();
        castReach();
        castDone();
        ask9();
        stopRefused();
        breathLess();
        breathBack();
        sunkLeavesBelt();
        nearer();
        safeAt0();
        sunkAheadOfSafe();
        asAllIsThen();
        keptWithinNine();
        keptWithinSixty();
        menAreFree();
        undoNothing();
        undoOneByOne();
        undoSixteen();
        undoRound();
        undoOfEach();
        judgedFromTheBegin();
        judgedCantBe();
        judgedLeftOut();
        judgedSunk();
        judgedSafe();
        guestOthers();
        beltOthers();
        manOthers();
        minuteBits();
        markOthers();
        markHolds();
        markHoldsSeen();
        markAlone();
        countOthers();
        Due.end();
    }

    private static SilenceBall one(String kind, int at, int chin, int breath, int weighs, String more) {
        return Due.ball(Due.guest("g", kind, at, chin, breath, weighs) + more);
    }

    /** WEIGHT: as told, of a heavy one 5 more. */
    private static void weight() {
        String[] kinds = {"plain", "waver", "heavy", "shabby"};
        for (int k = 0; k < 4; k++) {
            Due.is("the least, " + kinds[k], one(kinds[k], 1, 1, 1, 1, "").guest(0, 4), k == 2 ? 6 : 1);
            Due.is("the most, " + kinds[k], one(kinds[k], 1, 1, 1, 30, "").guest(0, 4), k == 2 ? 35 : 30);
            Due.is("kind", one(kinds[k], 1, 1, 1, 1, "").guest(0, 0), k);
        }
    }

    /** A BELT BEARS a GUEST if it bears their WEIGHT, or more. */
    private static void bears() {
        String more = Due.belt("b", 9) + Due.belt("c", 10) + Due.belt("d", 11) + Due.man("m", 9, 0) + "water 2 ;";
        for (int b = 0; b < 3; b++) {
            SilenceBall ball = one("plain", 9, 1, 9, 10, more);
            ball.cast(0, b, 0);
            Due.is("plain by " + b, ball.under(), b == 0 ? 1 : 0);
            ball = one("heavy", 9, 1, 9, 5, more);
            ball.cast(0, b, 0);
            Due.is("heavy by " + b, ball.under(), b == 0 ? 1 : 0);
        }
    }

    /** A GUEST IN it is UNDER if it is deeper than their chin. */
    private static void underByDepth() {
        Due.is("1 less", one("plain", 1, 5, 9, 1, "water 4 ;").under(), 0);
        Due.is("as deep", one("plain", 1, 5, 9, 1, "water 5 ;").under(), 0);
        Due.is("1 deeper", one("plain", 1, 5, 9, 1, "water 6 ;").under(), 1);
        Due.is("heavy", one("heavy", 1, 5, 9, 1, "water 6 ;").under(), 1);
        SilenceBall ball = one("plain", 1, 40, 9, 1, "water 40 ; rises 1 ;");
        Due.is("as deep as the highest chin", ball.under(), 0);
        ball.minute();
        Due.is("deeper than that", ball.under(), 1);
        Due.pass(ball, 8);
        Due.is("a breath left", ball.under(), 1);
        ball.minute();
        Due.is("not once SUNK", ball.under(), 0);
        ball = one("heavy", 1, 1, 9, 1, "water 9 ;" + Due.belt("b", 1) + Due.man("m", 1, 0));
        ball.cast(0, 0, 0);
        Due.is("under", ball.under(), 1);
        ball.minute();
        Due.is("not once SAFE", ball.under(), 0);
    }

    /** And they have no BELT that BEARS them: to be on the wall is not enough, nor that it is another's. */
    private static void underByBelt() {
        SilenceBall ball = Due.ball(Due.guest("g", "plain", 5, 1, 9, 5) + Due.guest("h", "plain", 5, 1, 9, 5) + Due.belt("b", 5) + Due.belt("c", 4)
            + Due.man("m", 5, 0) + Due.man("n", 5, 0) + "water 2 ;");
        Due.is("without", ball.under(), 3);
        ball.cast(0, 0, 1);
        Due.is("one with", ball.under(), 1);
        ball.cast(1, 1, 0);
        Due.is("one with the lesser", ball.under(), 1);
    }

    /** A waver, a shabby one never is. */
    private static void wavers() {
        SilenceBall ball = Due.ball(Due.guest("g", "waver", 9, 1, 1, 1) + Due.guest("h", "shabby", 9, 1, 1, 1) + "water 40 ; rises 9 ;");
        for (int n = 0; n < 9; n++) {
            Due.is("never under", ball.under(), 0);
            Due.is("never sunk", ball.minute(), 0);
        }
        Due.pass(ball, 60);
        Due.is("the waver is in it for ever", ball.count(6), 1);
        Due.is("with all breath", ball.guest(0, 3), 1);
    }

    /** CRIES: those IN it, not shabby, without a BELT, for whom it is deeper than their chin. */
    private static void cries() {
        Due.is("as deep", one("plain", 1, 5, 9, 1, "water 5 ;").cries(), 0);
        Due.is("deeper", one("plain", 1, 5, 9, 1, "water 6 ;").cries(), 1);
        Due.is("a waver", one("waver", 1, 5, 9, 1, "water 6 ;").cries(), 1);
        Due.is("a waver, as deep", one("waver", 1, 5, 9, 1, "water 5 ;").cries(), 0);
        Due.is("a heavy one", one("heavy", 1, 5, 9, 1, "water 6 ;").cries(), 1);
        Due.is("a shabby one", one("shabby", 1, 5, 9, 1, "water 40 ;").cries(), 0);
        SilenceBall ball = one("plain", 2, 5, 9, 30, "water 6 ;" + Due.belt("b", 1) + Due.man("m", 2, 0));
        ball.cast(0, 0, 0);
        Due.is("a belt, though it does not bear", ball.cries(), 0);
        Due.is("under all the same", ball.under(), 1);
        Due.pass(ball, 2);
        Due.is("SAFE", ball.cries(), 0);
        ball = one("plain", 2, 5, 1, 1, "water 6 ;");
        ball.minute();
        Due.is("SUNK", ball.cries(), 0);
        Due.is("nobody told", new SilenceBall().cries(), 0);
    }

    /** FREE is a MAN who has done nothing in this minute: what can't be is nothing, nor are a question and another's doing. */
    private static void free() {
        SilenceBall ball = Due.ball(Due.guest("g", "plain", 5, 40, 9, 1) + Due.belt("b", 1) + Due.man("m", 5, 0) + Due.man("n", 6, 0) + Due.man("o", 5, 0));
        Due.is("there is no hole", ball.stop(0), -1);
        Due.is("too far", ball.cast(1, 0, 0), false);
        Due.is("no such belt", ball.cast(0, 1, 0), false);
        ball.ask();
        Due.is("all are free", ball.man(0, 2) + ball.man(1, 2) + ball.man(2, 2), 3);
        ball.cast(0, 0, 0);
        Due.is("who has cast", ball.man(0, 2), 0);
        ball.stop(1);
        Due.is("who has stopped", ball.man(1, 2), 0);
        Due.is("the third", ball.man(2, 2), 1);
        ball.minute();
        Due.is("the next minute", ball.man(0, 2) + ball.man(1, 2) + ball.man(2, 2), 3);
    }

    /** FREE is told of each MAN alone: another's doing, ahead or behind, makes nobody free. */
    private static void freeEachAlone() {
        for (int doing = 0; doing < 8; doing++) {
            SilenceBall ball = Due.ball(Due.guest("g", "plain", 5, 40, 9, 1) + Due.guest("h", "plain", 5, 40, 9, 1) + Due.guest("i", "plain", 5, 40, 9, 1)
                + Due.belt("b", 1) + Due.belt("c", 1) + Due.belt("d", 1) + Due.man("m", 5, 0) + Due.man("n", 5, 0) + Due.man("o", 5, 0) + "holes 9 ;");
            for (int man : new int[] {1, 0, 2}) {
                Due.is("free ahead", ball.man(man, 2), 1);
                boolean done = (doing >> man & 1) == 1 ? ball.cast(man, man, man) : ball.stop(man) > 0;
                Due.is("done", done, true);
                for (int other = 0; other < 3; other++) {
                    boolean ahead = other == man || other == 1 || man == 2;
                    Due.is("free behind " + man + ": " + other, ball.man(other, 2), ahead ? 0 : 1);
                }
            }
            for (int man = 0; man < 3; man++) {
                Due.is("nothing more", ball.stop(man), -1);
            }
        }
    }

    private static SilenceBall ready() {
        return Due.ball(Due.guest("g", "plain", 5, 40, 9, 1) + Due.guest("h", "shabby", 5, 40, 9, 1) + Due.guest("i", "plain", 5, 40, 9, 1)
            + Due.belt("b", 1) + Due.belt("c", 1) + Due.man("m", 5, 0) + Due.man("n", 5, 0) + "holes 1 ;");
    }

    private static void refused(String why, SilenceBall ball, int man, int belt, int guest) {
        int acts = ball.count(12);
        int wall = ball.count(9);
        Due.is(why, ball.cast(man, belt, guest), false);
        Due.is(why + ": nothing to undo", ball.count(12), acts);
        Due.is(why + ": the wall", ball.count(9), wall);
    }

    /** CAST; false: others, it can't be. */
    private static void castRefused() {
        for (int other : FAR) {
            refused("no such man", ready(), other, 0, 0);
            refused("no such belt", ready(), 0, other, 0);
            refused("no such guest", ready(), 0, 0, other);
        }
        refused("no third man", ready(), 2, 0, 0);
        refused("no third belt", ready(), 0, 2, 0);
        refused("no fourth guest", ready(), 0, 0, 3);
        refused("shabby", ready(), 0, 0, 1);
        SilenceBall ball = ready();
        ball.cast(0, 0, 0);
        refused("has cast", ball, 0, 1, 2);
        refused("not on the wall", ball, 1, 0, 2);
        refused("has one", ball, 1, 1, 0);
        Due.is("all that is left", ball.cast(1, 1, 2), true);
        ball = ready();
        ball.stop(0);
        refused("has stopped", ball, 0, 0, 0);
        refused("nothing told", new SilenceBall(), 0, 0, 0);
    }

    /** To a GUEST IN it. */
    private static void castGone() {
        SilenceBall ball = Due.ball(Due.guest("g", "plain", 1, 1, 1, 1) + Due.guest("h", "waver", 1, 1, 1, 1) + Due.belt("b", 1) + Due.man("m", 1, 1)
            + Due.man("n", 1, 1) + "water 9 ;");
        ball.cast(0, 0, 1);
        ball.minute();
        Due.is("sunk", ball.guest(0, 6), 2);
        Due.is("safe", ball.guest(1, 6), 1);
        refused("SUNK", ball, 0, 0, 0);
        refused("SAFE", ball, 0, 0, 1);
    }

    /** Who is no farther from him than his reach. */
    private static void castReach() {
        for (int at = 1; at <= 9; at++) {
            for (int post = 0; post <= 9; post++) {
                int far = Math.abs(at - post);
                String ready = Due.guest("g", "plain", at, 9, 9, 1) + Due.belt("b", 1);
                Due.is("as far as his reach", Due.ball(ready + Due.man("m", post, far)).cast(0, 0, 0), true);
                if (far > 0) {
                    Due.is("1 farther", Due.ball(ready + Due.man("m", post, far - 1)).cast(0, 0, 0), false);
                }
            }
        }
        SilenceBall ball = Due.ball(Due.guest("g", "plain", 5, 9, 9, 1) + Due.belt("b", 1) + Due.man("m", 5, 0));
        Due.is("at his place", ball.cast(0, 0, 0), true);
    }

    /** They have it. */
    private static void castDone() {
        SilenceBall ball = ready();
        Due.is("cast", ball.cast(1, 1, 2), true);
        Due.is("the belt", ball.guest(2, 5), 1);
        Due.is("who has it", ball.belt(1, 1), 2);
        Due.is("the wall", ball.count(9), 1);
        Due.is("an act", ball.count(12), 1);
        Due.is("the others have none", ball.guest(0, 5), -1);
        ball = one("plain", 5, 40, 9, 1, Due.belt("b", 1) + Due.belt("c", 1) + Due.man("m", 9, 0) + Due.man("n", 9, 0) + Due.man("o", 5, 0));
        Due.is("more men than guests", ball.cast(2, 1, 0), true);
        Due.is("the belt", ball.guest(0, 5), 1);
        Due.is("who has it", ball.belt(1, 1), 0);
    }

    /** ASK: one hole more, 9 at most (at 9 it can't be). */
    private static void ask9() {
        SilenceBall ball = Due.ball("holes 8 ;");
        Due.is("the ninth", ball.ask(), 9);
        Due.is("at 9", ball.ask(), -1);
        Due.is("holes", ball.count(4), 9);
        Due.is("nothing to undo of it", ball.count(12), 1);
        Due.is("told at 9", Due.ball("holes 9 ;").ask(), -1);
        Due.is("the first", Due.ball("holes 0 ;").ask(), 1);
        ball = Due.ball("holes 9 ;" + Due.man("m", 0, 0));
        ball.stop(0);
        Due.is("the ninth again", ball.ask(), 9);
    }

    /** STOP: a FREE MAN stops a hole, if there is one; NONE: others, it can't be. */
    private static void stopRefused() {
        String men = Due.man("m", 0, 0) + Due.man("n", 9, 9);
        SilenceBall ball = Due.ball(men + "holes 1 ;");
        for (int other : FAR) {
            Due.is("others", ball.stop(other), -1);
        }
        Due.is("others", ball.stop(2), -1);
        Due.is("nothing to undo", ball.count(12), 0);
        Due.is("the one", ball.stop(0), 0);
        Due.is("there is none", ball.stop(1), -1);
        ball.ask();
        Due.is("not free", ball.stop(0), -1);
        Due.is("acts", ball.count(12), 2);
        Due.is("the other", ball.stop(1), 0);
        Due.is("no hole is told", Due.ball(men).stop(0), -1);
        Due.is("nine", Due.ball(men + "holes 9 ;").stop(1), 8);
    }

    /** Each GUEST who is UNDER has one breath less, SUNK if none is left. */
    private static void breathLess() {
        for (int breath = 1; breath <= 9; breath++) {
            SilenceBall ball = one("plain", 9, 1, breath, 1, "water 2 ;");
            for (int left = breath - 1; left > 0; left--) {
                Due.is("not yet", ball.minute(), 0);
                Due.is("breath", ball.guest(0, 3), left);
                Due.is("in it", ball.guest(0, 6), 0);
            }
            Due.is("by the last", ball.minute(), 1);
            Due.is("none is left", ball.guest(0, 3), 0);
            Due.is("sunk", ball.guest(0, 6), 2);
            Due.is("once", ball.minute(), 0);
            Due.is("none is left", ball.guest(0, 3), 0);
        }
    }

    /** Each other one IN it has all their breath. */
    private static void breathBack() {
        SilenceBall ball = one("plain", 9, 5, 9, 1, "water 9 ; rises 0 - 1 ;");
        Due.pass(ball, 4);
        Due.is("9, 8, 7, 6", ball.guest(0, 3), 5);
        ball.minute();
        Due.is("5 is not deeper", ball.guest(0, 3), 9);
        ball = one("plain", 9, 5, 9, 1, "water 9 ;" + Due.belt("b", 1) + Due.man("m", 9, 9));
        Due.pass(ball, 2);
        ball.cast(0, 0, 0);
        Due.is("not by the cast", ball.guest(0, 3), 7);
        ball.minute();
        Due.is("by the minute", ball.guest(0, 3), 9);
        // SAFE with one breath of three: he is not IN it any more
        ball = one("plain", 2, 5, 3, 9, "water 9 ;" + Due.belt("b", 1) + Due.man("m", 2, 9));
        ball.cast(0, 0, 0);
        Due.pass(ball, 9);
        Due.is("SAFE as he came", ball.guest(0, 3), 1);
    }

    /** A BELT that they have is on the wall then. */
    private static void sunkLeavesBelt() {
        SilenceBall ball = one("plain", 9, 1, 1, 9, "water 2 ;" + Due.belt("b", 8) + Due.man("m", 9, 0));
        ball.cast(0, 0, 0);
        Due.is("out", ball.count(9), 0);
        Due.is("sunk with it on", ball.minute(), 1);
        Due.is("on the wall", ball.count(9), 1);
        Due.is("nobody's", ball.belt(0, 1), -1);
        Due.is("no belt", ball.guest(0, 5), -1);
        Due.is("he stays where he was", ball.guest(0, 1), 9);
    }

    /** Then each one IN it who has a BELT, or is shabby, comes one nearer to the buffet. */
    private static void nearer() {
        SilenceBall ball = Due.ball(Due.guest("g", "plain", 9, 40, 9, 9) + Due.guest("h", "shabby", 9, 40, 9, 1) + Due.guest("i", "waver", 9, 40, 9, 1)
            + Due.guest("j", "waver", 9, 40, 9, 1) + Due.guest("k", "heavy", 9, 40, 9, 1) + Due.belt("b", 8) + Due.belt("c", 1) + Due.man("m", 9, 0)
            + Due.man("n", 9, 0));
        ball.cast(0, 0, 0);
        ball.cast(1, 1, 3);
        for (int n = 1; n <= 8; n++) {
            ball.minute();
            int[] due = {9 - n, 9 - n, 9, 9 - n, 9};
            for (int g = 0; g < 5; g++) {
                Due.is("where " + g + " is behind " + n, ball.guest(g, 1), due[g]);
            }
        }
        Due.is("all in it", ball.count(6), 31);
        ball.minute();
        Due.is("safe", ball.count(7), 11);
    }

    /** Who is at 0 is SAFE (the BELT is on the wall then). */
    private static void safeAt0() {
        SilenceBall ball = Due.ball(Due.guest("g", "plain", 2, 40, 9, 1) + Due.guest("h", "shabby", 1, 40, 9, 1) + Due.belt("b", 1) + Due.man("m", 2, 0));
        ball.cast(0, 0, 0);
        ball.minute();
        Due.is("at 1", ball.guest(0, 6), 0);
        Due.is("out", ball.count(9), 0);
        Due.is("the shabby one", ball.guest(1, 6), 1);
        ball.minute();
        Due.is("at 0", ball.guest(0, 1), 0);
        Due.is("SAFE", ball.guest(0, 6), 1);
        Due.is("on the wall", ball.count(9), 1);
        Due.is("nobody's", ball.belt(0, 1), -1);
        Due.is("no belt", ball.guest(0, 5), -1);
        Due.pass(ball, 3);
        Due.is("no farther than the buffet", ball.guest(0, 1) + ball.guest(1, 1), 0);
    }

    /** SUNK comes first, then who comes nearer. */
    private static void sunkAheadOfSafe() {
        String more = "water 2 ;" + Due.belt("b", 1) + Due.man("m", 3, 0);
        SilenceBall ball = one("plain", 3, 1, 3, 9, more);
        ball.cast(0, 0, 0);
        Due.pass(ball, 3);
        Due.is("by as many breaths as places", ball.guest(0, 6), 2);
        Due.is("one from the buffet", ball.guest(0, 1), 1);
        ball = one("plain", 3, 1, 4, 9, more);
        ball.cast(0, 0, 0);
        Due.pass(ball, 3);
        Due.is("by one more", ball.guest(0, 6), 1);
    }

    /** Then it is deeper by the E of rises, as all is then. */
    private static void asAllIsThen() {
        String two = Due.guest("g", "plain", 1, 9, 1, 1) + Due.guest("h", "plain", 9, 1, 1, 1) + Due.guest("i", "plain", 9, 40, 1, 1)
            + Due.belt("b", 1) + Due.belt("c", 1) + Due.man("m", 1, 0) + Due.man("n", 9, 0) + "holes 2 ; water 9 ;";
        SilenceBall ball = Due.ball(two + "rises talk ;");
        ball.cast(0, 0, 0);
        ball.minute();
        Due.is("one is safe, one is sunk", ball.count(5), 10);
        ball = Due.ball(two + "rises out ;");
        ball.cast(0, 0, 0);
        ball.cast(1, 1, 2);
        ball.minute();
        Due.is("one is on the wall again", ball.count(5), 10);
        ball = Due.ball(two + "rises depth ;");
        ball.minute();
        Due.is("as deep as ahead of it", ball.count(5), 18);
        ball = Due.ball(two + "rises gaps ;");
        ball.ask();
        ball.minute();
        Due.is("the holes there are", ball.count(5), 12);
    }

    /** Kept within -9 to 9; less than 0: less deep. */
    private static void keptWithinNine() {
        int[] by = {8, 9, 10, 9999};
        for (int more : by) {
            Due.is("deeper by " + more, Due.ball("water 20 ; rises " + more + " ;").later(1), 20 + Math.min(9, more));
            Due.is("less deep by " + more, Due.ball("water 20 ; rises 0 - " + more + " ;").later(1), 20 - Math.min(9, more));
        }
        Due.is("by 0", Due.ball("water 20 ; rises 0 ;").later(1), 20);
        Due.is("by the least int", Due.ball("water 20 ; rises 4096 * 4096 * 128 ;").later(1), 11);
        Due.is("by the greatest int", Due.ball("water 20 ; rises 4096 * 4096 * 128 - 1 ;").later(1), 29);
    }

    /** 0 at least, 60 at most. */
    private static void keptWithinSixty() {
        SilenceBall ball = Due.ball("water 33 ; rises 9 ;");
        Due.is("60 to the point", ball.later(3), 60);
        Due.is("then", ball.later(4), 60);
        ball = Due.ball("water 40 ; rises 7 ;");
        Due.is("ahead of it", ball.later(2), 54);
        Due.is("1 beyond", ball.later(3), 60);
        ball = Due.ball("water 18 ; rises 0 - 9 ;");
        Due.is("0 to the point", ball.later(2), 0);
        Due.is("then", ball.later(3), 0);
        ball = Due.ball("water 10 ; rises 0 - 9 ;");
        Due.is("ahead of it", ball.later(1), 1);
        Due.is("1 beyond", ball.later(2), 0);
    }

    /** All MEN are FREE, it is the next minute. */
    private static void menAreFree() {
        SilenceBall ball = Due.ball(Due.man("m", 0, 0) + Due.man("n", 0, 0) + Due.man("o", 0, 0) + "holes 9 ;");
        for (int n = 1; n <= 2; n++) {
            for (int m = 0; m < 3; m++) {
                Due.is("free", ball.man(m, 2), 1);
                ball.stop(m);
                Due.is("not free", ball.man(m, 2), 0);
            }
            ball.minute();
            Due.is("minute", ball.count(3), n);
        }
        Due.is("free", ball.man(2, 2), 1);
    }

    /** False: nothing can be. */
    private static void undoNothing() {
        SilenceBall ball = new SilenceBall();
        Due.is("of a new one", ball.undo(), false);
        ball.stop(0);
        ball.cast(0, 0, 0);
        ball.see(1, 1);
        ball.mark(0, false);
        Due.is("behind what is none of these", ball.undo(), false);
        ball.ask();
        Due.is("one", ball.undo(), true);
        Due.is("no second", ball.undo(), false);
        Due.is("nothing is changed by that", ball.count(4), 0);
    }

    /** UNDO: all of these, one by one: each brings back all that it had changed. */
    private static void undoOneByOne() {
        SilenceBall ball = Due.ball(Due.guest("g", "plain", 1, 1, 2, 9) + Due.guest("h", "plain", 9, 1, 1, 9) + Due.guest("i", "plain", 1, 1, 2, 9)
            + Due.belt("b", 9) + Due.belt("c", 8) + Due.man("m", 1, 0) + Due.man("n", 9, 0) + "holes 2 ; water 2 ;");
        ball.cast(0, 0, 0);
        ball.cast(1, 1, 1);
        ball.ask();
        Due.is("h is sunk", ball.minute(), 2);
        Due.is("g is safe", ball.count(7), 1);
        ball.stop(0);
        Due.is("stop", ball.undo(), true);
        Due.is("holes", ball.count(4), 3);
        Due.is("free", ball.man(0, 2), 1);
        Due.is("minute", ball.undo(), true);
        int[] due = {3, 2, 2, 0, 3, 2, 7, 0, 0, 0, 0, 0, 3, 0};
        for (int what = 0; what < 14; what++) {
            Due.is("count " + what + " ahead of the minute", ball.count(what), due[what]);
        }
        Due.is("where", ball.guest(0, 1), 1);
        Due.is("their belts", ball.guest(0, 5), 0);
        Due.is("their belts", ball.guest(1, 5), 1);
        Due.is("breath", ball.guest(1, 3), 1);
        Due.is("breath", ball.guest(2, 3), 2);
        Due.is("not free", ball.man(0, 2) + ball.man(1, 2), 0);
        ball.undo();
        Due.is("ask", ball.count(4), 2);
        ball.undo();
        Due.is("cast", ball.guest(1, 5), -1);
        Due.is("free", ball.man(1, 2), 1);
        Due.is("the first is not undone yet", ball.guest(0, 5), 0);
        ball.undo();
        Due.is("the first", ball.count(9), 3);
        Due.is("no more", ball.undo(), false);
    }

    /** The last 16. */
    private static void undoSixteen() {
        for (int acts = 14; acts <= 18; acts++) {
            SilenceBall ball = new SilenceBall();
            Due.pass(ball, acts);
            int can = Math.min(16, acts);
            Due.is("can be undone of " + acts, ball.count(12), can);
            for (int n = 1; n <= can; n++) {
                Due.is("undo", ball.undo(), true);
                Due.is("minute", ball.count(3), acts - n);
                Due.is("can be undone", ball.count(12), can - n);
            }
            Due.is("no more", ball.undo(), false);
            Due.is("minute", ball.count(3), acts - can);
        }
    }

    /** Also when many were undone between, and many more than 16 done. */
    private static void undoRound() {
        SilenceBall ball = new SilenceBall();
        int minute = 0;
        for (int round = 1; round <= 30; round++) {
            Due.pass(ball, 7);
            ball.undo();
            ball.undo();
            minute += 5;
            Due.is("minute", ball.count(3), minute);
            Due.is("can be undone", ball.count(12), round == 1 ? 5 : round == 2 ? 10 : 14);
        }
        for (int n = 1; n <= 14; n++) {
            Due.is("undo", ball.undo(), true);
            Due.is("minute", ball.count(3), minute - n);
        }
        Due.is("no more", ball.undo(), false);
    }

    /** UNDO and MARKS bring back all of each, of the last of six as of the first; and all is reckoned from what each has. */
    private static void undoOfEach() {
        StringBuilder text = new StringBuilder("water 9 ;");
        for (int g = 0; g < 6; g++) {
            text.append(Due.guest("g" + (char) ('a' + g), "plain", g + 4, 1, 9 - g, g + 1));
        }
        SilenceBall ball = Due.ball(text.toString());
        ball.mark(3, false);
        for (int n = 1; n <= 2; n++) {
            ball.minute();
            for (int g = 0; g < 6; g++) {
                Due.is("breath behind " + n, ball.guest(g, 3), 9 - g - n);
                Due.is("sunk from now on", ball.sinks(g), 9 - g - n);
            }
        }
        ball.undo();
        for (int g = 0; g < 6; g++) {
            Due.is("breath as it was", ball.guest(g, 3), 8 - g);
        }
        ball.mark(3, true);
        for (int g = 0; g < 6; g++) {
            Due.is("breath as it was at first", ball.guest(g, 3), 9 - g);
            Due.is("sunk from then on", ball.sinks(g), 9 - g);
        }
    }

    private static SilenceBall told(String evening) {
        SilenceBall ball = Due.ball();
        Due.is("evening", Due.evening(ball, evening), 0);
        return ball;
    }

    private static void judges(String evening, int barred, int sunk, int safe) {
        SilenceBall ball = told(evening);
        Due.is(evening + " can't be", ball.judged(0), barred);
        Due.is(evening + " sunk", ball.judged(1), sunk);
        Due.is(evening + " safe", ball.judged(2), safe);
    }

    /** JUDGED: the EVENING from the begin, whatever is done by hand; NONE: none; -2: others. */
    private static void judgedFromTheBegin() {
        SilenceBall ball = told("cast sam flood ann ; stop tom ; minute ; minute ; minute ;");
        ball.cast(0, 0, 0);
        ball.stop(1);
        Due.pass(ball, 9);
        Due.is("can't be", ball.judged(0), -1);
        Due.is("sunk", ball.judged(1), -1);
        Due.is("ann and dee", ball.judged(2), 2);
        Due.is("nothing is done", ball.count(3), 9);
        for (int other : new int[] {Integer.MIN_VALUE, -2, -1, 3, 4, Integer.MAX_VALUE}) {
            Due.is("others", ball.judged(other), -2);
        }
        judges("", -1, -1, 0);
    }

    /** The first line (from 0) that can't be (lines that can't be are left out; a minute always can). */
    private static void judgedCantBe() {
        judges("cast sam flood dee ;", 0, -1, 0);
        judges("ask ; cast sam flood bob ; cast sam flood dee ;", 1, -1, 0);
        judges("stop sam ; stop sam ;", 1, -1, 0);
        judges("stop sam ; stop tom ; minute ; stop sam ;", 3, -1, 0);
        judges("ask ; stop tom ; stop tom ;", 2, -1, 0);
        judges("ask ; stop tom ; stop sam ;", -1, -1, 0);
        judges("ask ; stop sam ; stop tom ; stop sam ;", 3, -1, 0);
        judges("ask ; cast tom weather cy ; stop tom ;", 2, -1, 0);
        judges("ask ; cast tom weather cy ; cast sam flood ann ; stop tom ;", 3, -1, 0);
        judges("ask;".repeat(7), -1, -1, 0);
        judges("ask;".repeat(8), 7, -1, 0);
        judges("ask;".repeat(7) + "minute;".repeat(32) + "ask;", 39, 9, 1);
        // left out: he who could not is free, and the belt is on the wall
        judges("cast sam flood bob ; cast sam flood ann ; cast tom weather cy ; cast tom dogs bob ; minute ; minute ; minute ; minute ; minute ; minute ;"
            + "minute ;", 0, -1, 3);
        judges("minute;".repeat(40), -1, 2, 1);
    }

    /** Lines that can't be are left out: nothing is done by them. */
    private static void judgedLeftOut() {
        String man = Due.man("m", 9, 0);
        String[][] told = {
            {"holes 9 ; rises 9 < gaps ;", "ask ;", "0"},
            {"holes 0 ; rises gaps < 0 ;", "stop m ;", "0"},
            {"holes 2 ; rises gaps < 1 ;", "stop m ; stop m ;", "1"},
            {"holes 1 ; rises gaps < 1 or 1 < out ;", "cast m b g ; stop m ;", "1"},
            {"holes 1 ; rises 0 < out ;", "stop m ; cast m b g ;", "1"},
            {"rises 1 < out ;", "cast m b g ; cast m c h ;", "1"},
            {"rises 0 < out ;", "cast m b h ;", "0"},
        };
        for (String[] it : told) {
            SilenceBall ball = Due.ball(Due.guest("g", "waver", 9, 1, 1, 1) + Due.guest("h", "plain", 8, 1, 1, 1) + Due.belt("b", 1) + Due.belt("c", 1) + man
                + "water 1 ;" + it[0]);
            Due.is("evening", Due.evening(ball, it[1] + "minute ; minute ; minute ;"), 0);
            Due.is(it[1] + " can't be", ball.judged(0), Integer.parseInt(it[2]));
            Due.is(it[1] + " it is no deeper", ball.judged(1), -1);
        }
    }

    /** The first line by which a GUEST is SUNK. */
    private static void judgedSunk() {
        judges("minute ; minute ;", -1, -1, 1);
        judges("minute ; minute ; minute ; minute ; minute ; minute ; minute ;", -1, 2, 1);
        judges("ask ; stop sam ; minute ; ask ; minute ; ask ; minute ;", -1, 6, 1);
        SilenceBall ball = one("plain", 9, 1, 1, 1, "water 2 ;");
        Due.evening(ball, "minute ;");
        Due.is("the first", ball.judged(1), 0);
        Due.evening(ball, "ask;".repeat(39) + "minute;");
        Due.is("the fortieth", ball.judged(1), 39);
    }

    /** How many are SAFE at last. */
    private static void judgedSafe() {
        StringBuilder text = new StringBuilder();
        for (int g = 0; g < 6; g++) {
            text.append(Due.guest("g" + (char) ('a' + g), "shabby", g + 1, 1, 1, 1));
        }
        SilenceBall ball = Due.ball(text.toString());
        for (int n = 0; n <= 7; n++) {
            Due.evening(ball, "minute;".repeat(n));
            Due.is("behind " + n, ball.judged(2), Math.min(6, n));
        }
    }

    /** Guest -2: others. */
    private static void guestOthers() {
        SilenceBall ball = Due.ball();
        for (int other : FAR) {
            Due.is("guest", ball.guest(other, 0), -2);
            Due.is("what", ball.guest(0, other), -2);
        }
        for (int what = 0; what < 7; what++) {
            Due.is("no fifth", ball.guest(4, what), -2);
            Due.is("none told", new SilenceBall().guest(0, what), -2);
        }
        Due.is("what", ball.guest(3, 7), -2);
        Due.is("NONE: none", ball.guest(3, 5), -1);
    }

    /** Belt -2: others. */
    private static void beltOthers() {
        SilenceBall ball = Due.ball();
        for (int other : FAR) {
            Due.is("belt", ball.belt(other, 0), -2);
            Due.is("belt", ball.belt(other, 1), -2);
            Due.is("what", ball.belt(0, other), -2);
        }
        Due.is("no fourth", ball.belt(3, 0), -2);
        Due.is("no fourth", ball.belt(3, 1), -2);
        Due.is("what", ball.belt(2, 2), -2);
        Due.is("NONE: the wall", ball.belt(2, 1), -1);
    }

    /** Man NONE: others. */
    private static void manOthers() {
        SilenceBall ball = Due.ball();
        for (int other : FAR) {
            Due.is("man", ball.man(other, 2), -1);
            Due.is("what", ball.man(0, other), -1);
        }
        for (int what = 0; what < 3; what++) {
            Due.is("no third", ball.man(2, what), -1);
        }
        Due.is("what", ball.man(1, 3), -1);
    }

    /** MINUTE: who is SUNK by it, as bits: all of them, none, the last alone. */
    private static void minuteBits() {
        StringBuilder text = new StringBuilder("water 9 ;");
        for (int g = 0; g < 6; g++) {
            text.append(Due.guest("g" + (char) ('a' + g), g % 2 == 0 ? "plain" : "heavy", 9, 1, g < 5 ? 2 : 3, 1));
        }
        SilenceBall ball = Due.ball(text.toString());
        Due.is("none", ball.minute(), 0);
        Due.is("five", ball.minute(), 31);
        Due.is("the last, and no others again", ball.minute(), 32);
        Due.is("none", ball.minute(), 0);
        Due.is("all", ball.count(8), 63);
    }

    /** MARKS 0 to 3; false: none such, nothing is on it (back). */
    private static void markOthers() {
        SilenceBall ball = Due.ball();
        for (int other : FAR) {
            Due.is("none such", ball.mark(other, false), false);
            Due.is("none such", ball.mark(other, true), false);
        }
        Due.is("none such", ball.mark(4, false), false);
        Due.is("none such", ball.mark(4, true), false);
        ball.ask();
        for (int m = 0; m < 4; m++) {
            Due.is("nothing is on it", ball.mark(m, true), false);
            Due.is("can be undone all the same", ball.count(12), 1);
            Due.is("laid", ball.mark(m, false), true);
            Due.is("can be undone all the same", ball.count(12), 1);
        }
        for (int m = 0; m < 4; m++) {
            Due.is("gone back to", ball.mark(m, true), true);
        }
    }

    /** MARKS hold all that UNDO brings back, what is SEEN (nothing can be undone when one is gone back to). */
    private static void markHolds() {
        SilenceBall ball = Due.ball();
        ball.see(6, 1);
        ball.cast(0, 0, 0);
        ball.minute();
        ball.stop(1);
        ball.mark(0, false);
        ball.see(9, 2);
        ball.undo();
        Due.pass(ball, 9);
        Due.evening(ball, "ask ;");
        ball.feed(' ', 0, 0);
        Due.is("back", ball.mark(0, true), true);
        int[] due = {4, 3, 2, 1, 1, 6, 15, 0, 0, 6, 1, 1, 0, 1};
        for (int what = 0; what < 14; what++) {
            Due.is("count " + what + " as it was", ball.count(what), due[what]);
        }
        Due.is("where", ball.guest(0, 1), 2);
        Due.is("breath", ball.guest(0, 3), 2);
        Due.is("belt", ball.guest(0, 5), 0);
        Due.is("not free", ball.man(1, 2), 0);
        Due.is("free", ball.man(0, 2), 1);
        Due.is("what is seen", ball.holes(), 4);
        Due.is("nothing can be undone", ball.undo(), false);
        ball.ask();
        Due.is("but what is done then", ball.undo(), true);
        Due.is("and no more", ball.undo(), false);
        Due.is("again", ball.mark(0, true), true);
    }

    /** MARKS hold what is SEEN: each of it, not how many alone. */
    private static void markHoldsSeen() {
        SilenceBall ball = new SilenceBall();
        ball.mark(0, false);
        for (int n = 1; n <= 8; n++) {
            ball.see(3 * n, n);
        }
        ball.mark(1, false);
        ball.mark(0, true);
        Due.is("nothing", ball.holes(), 1023);
        for (int n = 1; n <= 8; n++) {
            ball.see(5 * n, n);
        }
        ball.mark(2, false);
        Due.is("by 5", ball.holes(), 32);
        ball.mark(1, true);
        Due.is("by 3", ball.holes(), 8);
        Due.is("8 there are", ball.see(1, 1), false);
        ball.mark(0, true);
        ball.see(7, 7);
        Due.is("by 1", ball.holes(), 2);
        ball.mark(2, true);
        Due.is("by 5", ball.holes(), 32);
    }

    /** Each MARK is its own: laid again, what was on it is gone; what is done then does not change it. */
    private static void markAlone() {
        SilenceBall ball = new SilenceBall();
        for (int m = 0; m < 4; m++) {
            ball.mark(m, false);
            ball.minute();
            ball.see(m, 1);
        }
        for (int m = 3; m >= 0; m--) {
            ball.mark(m, true);
            Due.is("minute", ball.count(3), m);
            Due.is("seen", ball.count(11), m);
        }
        ball.mark(2, false);
        ball.minute();
        ball.mark(2, true);
        Due.is("laid again", ball.count(3), 0);
        ball.mark(3, true);
        Due.is("the next is as it was", ball.count(3), 3);
        ball.mark(1, true);
        Due.is("the one ahead, too", ball.count(3), 1);
    }

    /** NONE for another what. */
    private static void countOthers() {
        SilenceBall ball = Due.ball();
        for (int other : FAR) {
            Due.is("others", ball.count(other), -1);
        }
        Due.is("others", ball.count(14), -1);
        Due.is("others", ball.count(15), -1);
    }
}
