/** Promises 16 to 23 and 29: what comes of minutes going by. */
public final class AheadTest {
    /** Deeper each minute: 5 from the begin, 8, 11, then back to 3, and so on. */
    private static final String WAVES = " water 5 ; rises 3 - depth * ( 9 < depth ) ;";

    public static void main(String[] args) {
        later();
        over();
        sinks();
        first();
        home();
        quiet();
        when();
        lost();
        latest();
        byTheSixtieth();
        nothingIsDone();
        Due.end();
    }

    private static void later() {
        SilenceBall ball = Due.ball();
        int[] minutes = {0, 1, 3, 27, 28, 29, 60};
        int[] depths = {4, 6, 10, 58, 60, 60, 60};
        for (int i = 0; i < minutes.length; i++) {
            Due.is("later " + minutes[i], ball.later(minutes[i]), depths[i]);
        }
        Due.is("others", ball.later(-1), -1);
        Due.is("others", ball.later(61), -1);
        Due.is("others", ball.later(Integer.MIN_VALUE), -1);
        ball = Due.ball(WAVES);
        // from 11: 3 - 11 is 8 less; from 12: 9 less, which is as much as it may be
        int[] waves = {5, 8, 11, 3, 6, 9, 12, 3, 6, 9};
        for (int n = 0; n < waves.length; n++) {
            Due.is("wave " + n, ball.later(n), waves[n]);
        }
        ball.minute();
        Due.is("from now on", ball.later(1), 11);
    }

    private static void over() {
        SilenceBall ball = Due.ball();
        Due.is("over 0", ball.over(0), 0);
        Due.is("over 4", ball.over(4), 0);
        Due.is("over 5", ball.over(5), 1);
        Due.is("over 60", ball.over(60), 28);
        Due.is("others", ball.over(61), -1);
        Due.is("others", ball.over(-1), -1);
        ball = Due.ball(WAVES);
        Due.is("the first of many", ball.over(8), 1);
        Due.is("a later one", ball.over(12), 6);
        Due.is("never", ball.over(13), -1);
        ball = Due.ball("rises 1 ;");
        Due.is("at last", ball.over(60), 60);
        ball = Due.ball("rises gaps = 0 ; holes 0 ;");
        ball.ask();
        Due.is("not by 60", ball.over(1), -1);
    }

    private static void sinks() {
        SilenceBall ball = Due.ball();
        Due.is("ann", ball.sinks(0), 3);
        Due.is("bob waves", ball.sinks(1), -1);
        Due.is("cy", ball.sinks(2), 6);
        Due.is("dee", ball.sinks(3), -1);
        Due.is("others", ball.sinks(4), -1);
        Due.is("others", ball.sinks(-1), -1);
        ball.cast(0, 0, 0);
        Due.is("held", ball.sinks(0), -1);
        ball.undo();
        Due.pass(ball, 2);
        Due.is("the next", ball.sinks(0), 1);
        ball.minute();
        Due.is("sunk already", ball.sinks(0), -1);
        ball = Due.ball("guest a plain at 1 chin 1 breath 9 weighs 1 ; water 0 ; rises talk ;");
        Due.is("nine breaths behind the second", ball.sinks(0), 11);
        ball = Due.ball("guest a plain at 1 chin 39 breath 9 weighs 1 ; guest b plain at 1 chin 40 breath 9 weighs 1 ;"
            + " guest c plain at 1 chin 40 breath 8 weighs 1 ; rises 1 ;");
        // 40 behind forty minutes: the 41st is the first under for a chin of 39, the 42nd for one of 40
        Due.is("chin 39, breath 9", ball.sinks(0), 49);
        Due.is("chin 40, breath 9", ball.sinks(1), 50);
        Due.is("chin 40, breath 8", ball.sinks(2), 49);
    }

    private static void first() {
        SilenceBall ball = Due.ball();
        Due.is("ann", ball.first(), 0);
        Due.pass(ball, 3);
        Due.is("cy", ball.first(), 2);
        Due.pass(ball, 3);
        Due.is("nobody", ball.first(), -1);
        ball = Due.ball("guest a waver at 1 chin 1 breath 1 weighs 1 ; guest b plain at 1 chin 9 breath 1 weighs 1 ;"
            + " guest c plain at 1 chin 3 breath 2 weighs 1 ; guest d plain at 2 chin 4 breath 1 weighs 1 ; rises 1 ;");
        // c: at 4 the breath goes, and at 5; d: at 5
        Due.is("of equal ones the first", ball.first(), 2);
        Due.is("nobody", new SilenceBall().first(), -1);
    }

    private static void home() {
        SilenceBall ball = Due.ball();
        Due.is("dee", ball.home(3), 2);
        Due.is("ann without a belt", ball.home(0), -1);
        ball.cast(0, 0, 0);
        Due.is("ann with one", ball.home(0), 3);
        ball.cast(1, 0, 2);
        ball.cast(1, 2, 2);
        Due.is("cy sinks with it on", ball.home(2), -1);
        Due.is("others", ball.home(4), -1);
        Due.is("others", ball.home(-1), -1);
        Due.pass(ball, 2);
        Due.is("safe already", ball.home(3), -1);
        Due.is("the next", ball.home(0), 1);
    }

    private static void quiet() {
        SilenceBall ball = Due.ball();
        Due.is("bob stays", ball.quiet(), -1);
        Due.is("nobody", new SilenceBall().quiet(), 0);
        ball = Due.ball("guest a plain at 9 chin 5 breath 2 weighs 1 ; guest b shabby at 4 chin 5 breath 2 weighs 1 ; rises 1 ;");
        // a: 6 behind six, 7 behind seven; sunk in the eighth
        Due.is("the last is sunk", ball.quiet(), 8);
        Due.pass(ball, 5);
        Due.is("from now on", ball.quiet(), 3);
        Due.pass(ball, 3);
        Due.is("now", ball.quiet(), 0);
    }

    private static void when() {
        SilenceBall ball = Due.ball();
        int[] due = {1, 0, 3, -1};
        for (int g = 0; g < due.length; g++) {
            Due.is("when " + g, ball.when(g), due[g]);
        }
        Due.is("others", ball.when(4), -1);
        Due.is("others", ball.when(-1), -1);
        ball.cast(0, 2, 0);
        Due.is("ann has a belt until she is sunk", ball.when(0), -1);
        ball.undo();
        Due.pass(ball, 3);
        Due.is("sunk", ball.when(0), -1);
        ball = Due.ball("guest a waver at 1 chin 1 breath 1 weighs 1 ; rises 0 ;");
        Due.is("not by 60", ball.when(0), -1);
    }

    private static void lost() {
        SilenceBall ball = Due.ball();
        int[] due = {0, 0, 0, 1, 1, 1, 5, 5};
        for (int n = 0; n < due.length; n++) {
            Due.is("lost " + n, ball.lost(n), due[n]);
        }
        Due.is("lost 60", ball.lost(60), 5);
        Due.is("others", ball.lost(61), -1);
        Due.is("others", ball.lost(-1), -1);
        Due.pass(ball, 4);
        Due.is("sunk ahead of now", ball.lost(0), 1);
        Due.is("with those", ball.lost(2), 5);
    }

    private static void latest() {
        SilenceBall ball = Due.ball();
        int[] due = {2, 60, 5, 60};
        for (int g = 0; g < due.length; g++) {
            Due.is("latest " + g, ball.latest(g), due[g]);
        }
        Due.is("others", ball.latest(4), -1);
        Due.is("others", ball.latest(-1), -1);
        ball.cast(0, 1, 0);
        Due.is("the belt is out, but told", ball.latest(2), 5);
        Due.is("held", ball.latest(0), 60);
        Due.pass(ball, 3);
        Due.is("safe", ball.latest(0), -1);
        ball = Due.ball("guest a plain at 1 chin 1 breath 1 weighs 30 ; guest b shabby at 9 chin 1 breath 1 weighs 30 ;"
            + " guest c waver at 1 chin 1 breath 1 weighs 29 ; belt d bears 29 ; water 2 ;");
        Due.is("no belt bears them", ball.latest(0), -1);
        Due.is("no belt bears them", ball.latest(1), -1);
        Due.is("one does", ball.latest(2), 60);
        ball = Due.ball("guest a plain at 1 chin 1 breath 1 weighs 1 ; belt d bears 1 ; water 2 ;");
        Due.is("by the next minute", ball.latest(0), 0);
        ball.minute();
        Due.is("sunk", ball.latest(0), -1);
    }

    private static void byTheSixtieth() {
        SilenceBall ball = Due.slow(7);
        Due.is("sunk in sixty", ball.sinks(0), 60);
        Due.is("the first", ball.first(), 0);
        Due.is("nobody is in it", ball.quiet(), 60);
        Due.is("lost", ball.lost(60), 1);
        Due.is("not yet", ball.lost(59), 0);
        Due.is("latest", ball.latest(0), 59);
        ball = Due.slow(8);
        Due.is("a minute later", ball.sinks(0), -1);
        Due.is("nobody", ball.first(), -1);
        Due.is("one is in it", ball.quiet(), -1);
        Due.is("nobody", ball.lost(60), 0);
        Due.is("not by 60", ball.latest(0), 60);
        ball.minute();
        Due.is("now it is", ball.first(), 0);
        Due.is("cries behind sixty", Due.late(37, 9, "").when(0), 60);
        Due.is("a minute later", Due.late(38, 9, "").when(0), -1);
        Due.is("sunk in sixty", Due.late(28, 9, "").sinks(0), 60);
        Due.is("a minute later", Due.late(29, 9, "").sinks(0), -1);
        Due.is("38 behind sixty", Due.late(28, 9, "").over(38), 60);
        Due.is("a minute later", Due.late(28, 9, "").over(39), -1);
    }

    private static void nothingIsDone() {
        SilenceBall ball = Due.ball();
        ball.cast(0, 0, 0);
        for (int g = 0; g < 4; g++) {
            ball.sinks(g);
            ball.home(g);
            ball.when(g);
            ball.latest(g);
        }
        ball.first();
        ball.quiet();
        ball.lost(60);
        ball.later(60);
        ball.over(60);
        Due.is("minute", ball.count(3), 0);
        Due.is("depth", ball.count(5), 4);
        Due.is("in it", ball.count(6), 15);
        Due.is("acts", ball.count(12), 1);
        Due.is("not free", ball.man(0, 2), 0);
    }
}
