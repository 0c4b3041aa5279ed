/** Promises 5 to 15 and 45, 46: what stands, what is done, undone, judged, marked and counted. */
public final class ActsTest {
    public static void main(String[] args) {
        guest();
        belt();
        man();
        cast();
        askAndStop();
        minuteSinks();
        minuteBringsNearer();
        minuteDeepens();
        undo();
        undoSixteen();
        judged();
        judgedBars();
        under();
        cries();
        mark();
        markAndRoom();
        count();
        Due.end();
    }

    private static void guest() {
        SilenceBall ball = Due.ball();
        int[][] due = {{0, 3, 5, 2, 10, -1, 0}, {1, 5, 3, 1, 8, -1, 0}, {2, 7, 8, 3, 25, -1, 0}, {3, 2, 1, 1, 4, -1, 0}};
        for (int g = 0; g < 4; g++) {
            for (int what = 0; what < 7; what++) {
                Due.is("guest " + g + ", " + what, ball.guest(g, what), due[g][what]);
            }
        }
        int[][] others = {{-1, 0}, {4, 0}, {0, -1}, {0, 7}, {Integer.MAX_VALUE, 1}, {Integer.MIN_VALUE, 1}, {0, Integer.MAX_VALUE}};
        for (int[] other : others) {
            Due.is("guest of others", ball.guest(other[0], other[1]), -2);
        }
    }

    private static void belt() {
        SilenceBall ball = Due.ball();
        Due.is("bears", ball.belt(0, 0), 12);
        Due.is("bears", ball.belt(2, 0), 9);
        Due.is("the wall", ball.belt(2, 1), -1);
        ball.cast(0, 2, 0);
        Due.is("who has it", ball.belt(2, 1), 0);
        Due.is("others", ball.belt(3, 0), -2);
        Due.is("others", ball.belt(-1, 1), -2);
        Due.is("others", ball.belt(0, 2), -2);
        Due.is("others", ball.belt(0, -1), -2);
    }

    private static void man() {
        SilenceBall ball = Due.ball();
        Due.is("where", ball.man(1, 0), 6);
        Due.is("reach", ball.man(0, 1), 4);
        Due.is("free", ball.man(1, 2), 1);
        ball.stop(1);
        Due.is("not free", ball.man(1, 2), 0);
        Due.is("free", ball.man(0, 2), 1);
        ball.minute();
        Due.is("free again", ball.man(1, 2), 1);
        Due.is("others", ball.man(2, 0), -1);
        Due.is("others", ball.man(-1, 0), -1);
        Due.is("others", ball.man(0, 3), -1);
        Due.is("others", ball.man(0, -1), -1);
    }

    private static void cast() {
        SilenceBall ball = Due.ball();
        Due.is("too far", ball.cast(0, 0, 1), false);
        Due.is("near enough", ball.cast(1, 0, 2), true);
        ball = Due.ball();
        Due.is("no such man", ball.cast(2, 0, 0), false);
        Due.is("no such man", ball.cast(-1, 0, 0), false);
        Due.is("no such belt", ball.cast(0, 3, 0), false);
        Due.is("no such belt", ball.cast(0, -1, 0), false);
        Due.is("no such guest", ball.cast(0, 0, 4), false);
        Due.is("no such guest", ball.cast(0, 0, -1), false);
        Due.is("a shabby one", ball.cast(0, 0, 3), false);
        Due.is("nothing to undo", ball.count(12), 0);
        Due.is("one that does not bear", ball.cast(0, 2, 0), true);
        Due.is("the belt", ball.guest(0, 5), 2);
        Due.is("not free", ball.cast(0, 0, 0), false);
        Due.is("not free", ball.man(0, 2), 0);
        ball.minute();
        Due.is("has one", ball.cast(0, 0, 0), false);
        Due.is("not on the wall", ball.cast(1, 2, 1), false);
        Due.is("a waver", ball.cast(1, 0, 1), true);
        // at 0, reach 4: a guest at 4 is reached, one at 5 is not
        ball = Due.ball("guest a plain at 4 chin 9 breath 1 weighs 1 ; guest b plain at 5 chin 9 breath 1 weighs 1 ;"
            + " belt c bears 1 ; man m at 0 reach 4 ; man n at 9 reach 4 ;");
        Due.is("farther", ball.cast(0, 0, 1), false);
        Due.is("no farther, from the other side", ball.cast(1, 0, 1), true);
        ball.undo();
        Due.is("no farther", ball.cast(0, 0, 0), true);
    }

    private static void askAndStop() {
        SilenceBall ball = Due.ball();
        for (int holes = 3; holes <= 9; holes++) {
            Due.is("ask", ball.ask(), holes);
        }
        Due.is("at 9", ball.ask(), -1);
        Due.is("holes", ball.count(4), 9);
        Due.is("what can be undone", ball.count(12), 7);
        Due.is("stop", ball.stop(0), 8);
        Due.is("not free", ball.stop(0), -1);
        Due.is("others", ball.stop(2), -1);
        Due.is("others", ball.stop(-1), -1);
        Due.is("not free to cast", ball.cast(0, 0, 0), false);
        Due.is("the other", ball.stop(1), 7);
        ball = Due.ball("man m at 1 reach 1 ; man n at 1 reach 1 ; holes 1 ;");
        Due.is("the last", ball.stop(1), 0);
        Due.is("no hole", ball.stop(0), -1);
        Due.is("still free", ball.man(0, 2), 1);
        Due.is("nobody is needed to ask", new SilenceBall().ask(), 1);
    }

    private static void minuteSinks() {
        SilenceBall ball = Due.ball();
        Due.is("a minute", ball.minute(), 0);
        Due.is("all breath", ball.guest(0, 3), 2);
        Due.is("at 6", ball.minute(), 0);
        Due.is("a breath less", ball.guest(0, 3), 1);
        Due.is("ann", ball.minute(), 1);
        Due.is("no breath", ball.guest(0, 3), 0);
        Due.is("state", ball.guest(0, 6), 2);
        Due.is("where", ball.guest(0, 1), 3);
        Due.is("dee", ball.guest(3, 6), 1);
        // cy: it is 10 behind three minutes
        Due.pass(ball, 2);
        Due.is("a breath left", ball.guest(2, 3), 1);
        Due.is("cy", ball.minute(), 4);
        Due.is("bob is only waving", ball.guest(1, 6), 0);
        Due.pass(ball, 60);
        Due.is("bob", ball.guest(1, 3), 1);
        Due.is("in it", ball.count(6), 2);
        // as deep as the chin is not under
        ball = Due.ball("guest a plain at 1 chin 5 breath 1 weighs 1 ; guest b plain at 1 chin 4 breath 1 weighs 1 ; water 5 ;");
        Due.is("deeper than the chin", ball.minute(), 2);
        // breath comes back: 3 above the chin, then at it
        ball = Due.ball("guest a plain at 1 chin 5 breath 3 weighs 1 ; water 7 ; rises 0 - 1 ;");
        Due.pass(ball, 2);
        Due.is("out of two of three", ball.guest(0, 3), 1);
        ball.minute();
        Due.is("all breath", ball.guest(0, 3), 3);
    }

    private static void minuteBringsNearer() {
        // sinks with it on: the belt is on the wall then
        SilenceBall ball = Due.ball("guest a heavy at 9 chin 1 breath 2 weighs 1 ; guest b plain at 2 chin 1 breath 1 weighs 6 ;"
            + " belt c bears 5 ; belt d bears 6 ; man m at 9 reach 0 ; man n at 0 reach 3 ; water 9 ; rises 0 ;");
        ball.cast(0, 0, 0);
        ball.cast(1, 1, 1);
        Due.is("none", ball.minute(), 0);
        Due.is("nearer", ball.guest(0, 1), 8);
        Due.is("nearer", ball.guest(1, 1), 1);
        Due.is("held", ball.guest(1, 3), 1);
        Due.is("the heavy one", ball.minute(), 1);
        Due.is("where", ball.guest(0, 1), 8);
        Due.is("no belt", ball.guest(0, 5), -1);
        Due.is("on the wall", ball.belt(0, 1), -1);
        Due.is("at the buffet", ball.guest(1, 6), 1);
        Due.is("where", ball.guest(1, 1), 0);
        Due.is("no belt", ball.guest(1, 5), -1);
        Due.is("on the wall", ball.count(9), 3);
        Due.is("once safe", ball.cast(1, 1, 1), false);
        Due.is("safe", ball.count(7), 2);
        // under, but safe ahead of the last breath, with what breath is left
        ball = Due.ball("guest a plain at 1 chin 1 breath 3 weighs 9 ; belt b bears 8 ; man m at 1 reach 0 ; water 9 ;");
        ball.cast(0, 0, 0);
        ball.minute();
        Due.is("breath left", ball.guest(0, 3), 2);
        Due.is("safe", ball.guest(0, 6), 1);
        // a shabby one walks, and never is under
        ball = Due.ball("guest a shabby at 3 chin 1 breath 1 weighs 9 ; water 40 ;");
        Due.pass(ball, 2);
        Due.is("where", ball.guest(0, 1), 1);
        ball.minute();
        Due.is("safe", ball.guest(0, 6), 1);
        // sunk in the very minute in which the belt would have brought him to the buffet
        ball = Due.ball("guest a plain at 1 chin 1 breath 1 weighs 9 ; belt b bears 8 ; man m at 1 reach 0 ; water 9 ;");
        ball.cast(0, 0, 0);
        Due.is("sunk", ball.minute(), 1);
        Due.is("sunk", ball.guest(0, 6), 2);
    }

    private static void minuteDeepens() {
        SilenceBall ball = Due.ball("water 40 ; rises 7 ;");
        Due.pass(ball, 3);
        Due.is("at the most", ball.count(5), 60);
        ball = Due.ball("water 10 ; rises 0 - 7 ;");
        Due.pass(ball, 2);
        Due.is("at the least", ball.count(5), 0);
        // as all is then: behind the sinking and the coming nearer, ahead of the men's being free
        ball = Due.ball("guest a plain at 9 chin 1 breath 1 weighs 1 ; guest b plain at 1 chin 9 breath 1 weighs 1 ;"
            + " guest c plain at 9 chin 30 breath 1 weighs 1 ; belt d bears 9 ; man m at 1 reach 0 ; water 9 ; rises talk * 3 + out ;");
        ball.cast(0, 0, 1);
        ball.minute();
        Due.is("one is in it, no belt is out", ball.count(5), 12);
        ball.minute();
        Due.is("the minute", ball.count(3), 2);
    }

    private static void undo() {
        SilenceBall ball = Due.ball();
        Due.is("nothing", ball.undo(), false);
        ball.cast(0, 0, 0);
        Due.is("a cast", ball.undo(), true);
        Due.is("belt", ball.guest(0, 5), -1);
        Due.is("free", ball.man(0, 2), 1);
        ball.ask();
        ball.stop(1);
        ball.stop(0);
        ball.undo();
        Due.is("holes", ball.count(4), 2);
        Due.is("free", ball.man(0, 2), 1);
        Due.is("not free", ball.man(1, 2), 0);
        ball.minute();
        ball.undo();
        Due.is("not free", ball.man(1, 2), 0);
        Due.is("minute", ball.count(3), 0);
        Due.is("depth", ball.count(5), 4);
        ball.undo();
        ball.undo();
        Due.is("holes", ball.count(4), 2);
        Due.is("nothing more", ball.undo(), false);
        Due.pass(ball, 6);
        ball.undo();
        Due.is("cy is back", ball.count(8), 1);
        Due.is("his breath", ball.guest(2, 3), 1);
        Due.is("dee is at the buffet", ball.count(7), 8);
        Due.pass(ball, 1);
        Due.is("cy is sunk", ball.count(8), 5);
        // what is only asked, fed, seen, read or can't be is none of these
        int acts = ball.count(12);
        ball.see(1, 1);
        ball.mark(0, false);
        ball.cast(0, 0, 3);
        ball.stop(9);
        ball.balls(1, 9, 0);
        ball.judged(0);
        ball.later(9);
        Due.evening(ball, "ask ;");
        Due.is("acts", ball.count(12), acts);
        ball.undo();
        Due.is("seen stays", ball.count(11), 1);
        Due.is("lines stay", ball.count(10), 1);
    }

    private static void undoSixteen() {
        SilenceBall ball = Due.ball("man m at 0 reach 0 ; holes 1 ;");
        for (int n = 1; n <= 20; n++) {
            ball.minute();
            Due.is("acts", ball.count(12), Math.min(16, n));
        }
        for (int n = 19; n >= 4; n--) {
            Due.is("one of sixteen", ball.undo(), true);
            Due.is("minute", ball.count(3), n);
            Due.is("depth", ball.count(5), n);
        }
        Due.is("the seventeenth", ball.undo(), false);
        Due.is("minute", ball.count(3), 4);
        ball.minute();
        ball.ask();
        Due.is("two", ball.count(12), 2);
        ball.undo();
        ball.undo();
        Due.is("no third", ball.undo(), false);
        Due.is("minute", ball.count(3), 4);
    }

    private static void judged() {
        SilenceBall ball = Due.ball();
        Due.is("no evening", ball.judged(0), -1);
        Due.is("no evening", ball.judged(1), -1);
        Due.is("no evening", ball.judged(2), 0);
        Due.is("others", ball.judged(3), -2);
        Due.is("others", ball.judged(-1), -2);
        // ann is sunk by the third minute, dee is safe by the second
        Due.evening(ball, "ask ; stop sam ; minute ; minute ; minute ;");
        Due.is("all can be", ball.judged(0), -1);
        Due.is("ann", ball.judged(1), 4);
        Due.is("dee", ball.judged(2), 1);
        Due.pass(ball, 9);
        ball.ask();
        Due.is("from the begin", ball.judged(1), 4);
        Due.is("nothing is changed", ball.count(3), 9);
        Due.is("holes", ball.count(4), 3);
        Due.evening(ball, "minute ; minute ; minute ; minute ; minute ; minute ;");
        Due.is("the first who is sunk", ball.judged(1), 2);
        Due.evening(ball, "cast sam flood ann ; minute ; minute ; minute ;");
        Due.is("nobody", ball.judged(1), -1);
        Due.is("ann and dee", ball.judged(2), 2);
        Due.evening(ball, "cast sam dogs ann ; minute ; minute ; minute ; minute ;");
        Due.is("sunk with it on", ball.judged(1), 3);
        Due.evening(ball, "cast sam weather ann ; cast tom weather cy ;");
        Due.is("not on the wall", ball.judged(0), 1);
        ball = Due.ball();
        ball.cast(0, 0, 0);
        Due.evening(ball, "stop sam ;");
        Due.is("free at the begin", ball.judged(0), -1);
    }

    private static void judgedBars() {
        SilenceBall ball = Due.ball();
        Due.evening(ball, "stop sam ; minute ; stop sam ; cast sam flood ann ; minute ;");
        Due.is("not free", ball.judged(0), 3);
        Due.evening(ball, "cast sam flood bob ;");
        Due.is("too far", ball.judged(0), 0);
        Due.evening(ball, "stop sam ; stop tom ; minute ; stop sam ; ask ; stop tom ; stop tom ;");
        Due.is("no hole", ball.judged(0), 3);
        // left out: the cast that can't be does not take the man
        Due.evening(ball, "cast sam flood dee ; cast sam flood ann ; cast sam dogs bob ; minute ; minute ; minute ;");
        Due.is("the first", ball.judged(0), 0);
        Due.is("the second can be", ball.judged(2), 2);
        Due.evening(ball, "ask ; ask ; ask ; ask ; ask ; ask ; ask ; ask ; ask ; minute ; minute ; minute ;");
        Due.is("the eighth question", ball.judged(0), 7);
        // 4, 13, 22: ann is under in the second and the third
        Due.is("ann and no other", ball.judged(1), 11);
    }

    private static void under() {
        SilenceBall ball = Due.ball();
        Due.is("nobody", ball.under(), 0);
        ball.minute();
        Due.is("ann", ball.under(), 1);
        ball.cast(0, 2, 0);
        Due.is("one that does not bear", ball.under(), 1);
        ball.undo();
        ball.cast(0, 0, 0);
        Due.is("one that bears", ball.under(), 0);
        Due.pass(ball, 2);
        Due.is("cy", ball.under(), 4);
        Due.pass(ball, 3);
        Due.is("nobody is in it but bob", ball.under(), 0);
        Due.is("nobody", new SilenceBall().under(), 0);
    }

    private static void cries() {
        SilenceBall ball = Due.ball();
        Due.is("bob waves", ball.cries(), 2);
        ball.minute();
        Due.is("ann too", ball.cries(), 3);
        ball.cast(0, 2, 0);
        Due.is("a belt, though it does not bear", ball.cries(), 2);
        ball.cast(1, 0, 1);
        Due.is("nobody", ball.cries(), 0);
        ball = Due.ball("guest a shabby at 9 chin 1 breath 1 weighs 1 ; guest b plain at 9 chin 5 breath 1 weighs 1 ; water 5 ; rises 1 ;");
        Due.is("as deep as the chin", ball.cries(), 0);
        ball.minute();
        Due.is("deeper", ball.cries(), 2);
        ball.minute();
        Due.is("sunk", ball.cries(), 0);
    }

    private static void mark() {
        SilenceBall ball = Due.ball();
        for (int m = -1; m < 5; m++) {
            Due.is("nothing is on it", ball.mark(m, true), false);
        }
        Due.is("none such", ball.mark(-1, false), false);
        Due.is("none such", ball.mark(4, false), false);
        ball.cast(0, 0, 0);
        ball.see(8, 2);
        Due.is("laid", ball.mark(3, false), true);
        Due.is("what can be undone stays", ball.count(12), 1);
        ball.ask();
        Due.pass(ball, 7);
        ball.see(9, 3);
        Due.evening(ball, "ask ;");
        Due.is("laid", ball.mark(0, false), true);
        Due.is("gone back", ball.mark(3, true), true);
        Due.is("minute", ball.count(3), 0);
        Due.is("holes", ball.count(4), 2);
        Due.is("depth", ball.count(5), 4);
        Due.is("in it", ball.count(6), 15);
        Due.is("belt", ball.guest(0, 5), 0);
        Due.is("not free", ball.man(0, 2), 0);
        Due.is("seen", ball.count(11), 1);
        Due.is("seen", ball.holes(), 4);
        Due.is("the evening is none of it", ball.count(10), 1);
        markedSeen();
        Due.is("nothing can be undone", ball.undo(), false);
        Due.is("gone back", ball.mark(0, true), true);
        Due.is("minute", ball.count(3), 7);
        Due.is("seen", ball.count(11), 2);
        Due.is("holes", ball.count(4), 3);
        Due.is("and again", ball.mark(3, true), true);
        Due.is("minute", ball.count(3), 0);
        ball.minute();
        Due.is("laid anew", ball.mark(3, false), true);
        ball.minute();
        ball.mark(3, true);
        Due.is("minute", ball.count(3), 1);
        Due.is("others are not laid", ball.mark(1, true), false);
    }

    private static void markedSeen() {
        SilenceBall ball = Due.ball();
        ball.see(8, 2);
        ball.mark(1, false);
        Due.room(ball, "tea");
        Due.is("seen", ball.holes(), 4);
        SilenceBall other = Due.ball();
        other.mark(0, false);
        other.see(10, 2);
        other.mark(1, false);
        other.mark(0, true);
        Due.is("nothing seen", other.holes(), 1023);
        other.see(7, 1);
        Due.is("by 3", other.holes(), 8);
        other.mark(1, true);
        Due.is("4 + 2 * 3", other.holes(), 8);
        other.mark(0, true);
        other.see(13, 1);
        Due.is("by 9", other.holes(), 512);
        other.mark(1, true);
        Due.is("what was marked", other.holes(), 8);
    }

    private static void markAndRoom() {
        SilenceBall ball = Due.ball();
        ball.mark(0, false);
        Due.room(ball, "guest");
        Due.is("behind a fault", ball.mark(0, true), true);
        Due.room(ball, "");
        Due.is("behind a room", ball.mark(0, true), false);
    }

    private static void count() {
        SilenceBall ball = Due.ball();
        int[] due = {4, 3, 2, 0, 2, 4, 15, 0, 0, 7, 0, 0, 0, 0};
        for (int what = 0; what < due.length; what++) {
            Due.is("count " + what, ball.count(what), due[what]);
        }
        ball.cast(0, 0, 0);
        Due.is("on the wall", ball.count(9), 6);
        Due.pass(ball, 3);
        Due.evening(ball, "ask ; ask ; ask ;");
        ball.see(1, 2);
        ball.see(1, 2);
        ball.feed(0x2020, 0, 0);
        int[] later = {4, 3, 2, 3, 2, 10, 6, 9, 0, 7, 3, 2, 4, 2};
        for (int what = 0; what < later.length; what++) {
            Due.is("count " + what + " later", ball.count(what), later[what]);
        }
        Due.pass(ball, 3);
        Due.is("sunk", ball.count(8), 4);
        Due.is("others", ball.count(-1), -1);
        Due.is("others", ball.count(14), -1);
    }
}
