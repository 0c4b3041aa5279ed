import java.util.NoSuchElementException;

/** The third term's last part, promises 39 to 44: a test for each sentence that names an edge, headed by it. */
public final class EdgesOfChanceTest {
    private static final int[] FAR = {Integer.MIN_VALUE, Integer.MIN_VALUE + 1, -3, -2, Integer.MAX_VALUE - 1, Integer.MAX_VALUE};
    private static final int THROWN = -99;

    public static void main(String[] args) {
        seenRange();
        seenEight();
        holesAll();
        holesFromTheBegin();
        lookRange();
        lookFirst();
        lookOfTheseAlone();
        lookNone();
        chanceRange();
        chanceIfItCanBe();
        chanceAhead();
        chanceGone();
        restsRange();
        restsByOdds();
        restsThrows();
        ballsRange();
        ballsNeedAll();
        ballsDraws();
        ballsFigures();
        ballsIfItCanBe();
        ballsFromNowOn();
        Due.end();
    }

    /** SEEN: so deep (0 to 60) behind so many (1 to 20) MINUTES; false: others. */
    private static void seenRange() {
        int[][] right = {{0, 1}, {60, 1}, {0, 20}, {60, 20}};
        for (int[] it : right) {
            SilenceBall ball = new SilenceBall();
            Due.is("see " + it[0] + ", " + it[1], ball.see(it[0], it[1]), true);
            Due.is("seen", ball.count(11), 1);
        }
        int[][] others = {{-1, 1}, {61, 1}, {0, 0}, {0, 21}, {0, -1}, {-1, 0}, {61, 21}};
        SilenceBall ball = new SilenceBall();
        for (int[] it : others) {
            Due.is("see " + it[0] + ", " + it[1], ball.see(it[0], it[1]), false);
        }
        for (int other : FAR) {
            Due.is("others", ball.see(other, 1), false);
            Due.is("others", ball.see(1, other), false);
        }
        Due.is("nothing is seen", ball.count(11), 0);
        Due.is("all fit it", ball.holes(), 1023);
    }

    /** 8 at most; false: 8 there are. */
    private static void seenEight() {
        SilenceBall ball = new SilenceBall();
        for (int n = 1; n <= 8; n++) {
            Due.is("see", ball.see(2 * n, n), true);
            Due.is("seen", ball.count(11), n);
        }
        Due.is("all eight are so", ball.holes(), 4);
        Due.is("a ninth", ball.see(18, 9), false);
        Due.is("a ninth", ball.see(0, 9), false);
        Due.is("seen", ball.count(11), 8);
        Due.is("it is none of them", ball.holes(), 4);
        ball = new SilenceBall();
        for (int n = 1; n <= 7; n++) {
            ball.see(2 * n, n);
        }
        ball.see(0, 9);
        Due.is("but the eighth is", ball.holes(), 0);
    }

    /** HOLES by which all SEEN is so (bits), an unknown number at first (0 to 9). */
    private static void holesAll() {
        Due.is("nothing seen: all", new SilenceBall().holes(), 1023);
        for (int holes = 0; holes <= 9; holes++) {
            SilenceBall ball = new SilenceBall();
            ball.see(holes, 1);
            Due.is("by " + holes, ball.holes(), 1 << holes);
            ball.see(Math.min(60, 20 * holes), 20);
            Due.is("and still", ball.holes(), 1 << holes);
            ball.see((holes + 1) % 10, 1);
            Due.is("not all is so", ball.holes(), 0);
        }
        SilenceBall ball = new SilenceBall();
        ball.see(60, 20);
        Due.is("60 at most", ball.holes(), 1023 - 7);
        ball = new SilenceBall();
        ball.see(59, 20);
        Due.is("none", ball.holes(), 0);
    }

    /** From the begin, nobody doing anything: nothing done by hand counts, nor the holes that are told. */
    private static void holesFromTheBegin() {
        SilenceBall ball = Due.ball("water 3 ; holes 5 ;" + Due.man("m", 0, 0));
        ball.stop(0);
        Due.pass(ball, 7);
        ball.ask();
        ball.see(11, 4);
        Due.is("3 + 4 * 2", ball.holes(), 4);
        Due.is("it is as deep as it was", ball.count(5), 31);
        Due.is("and minute", ball.count(3), 7);
    }

    /** LOOK: the number of MINUTES (1 to 20). */
    private static void lookRange() {
        Due.is("behind 1", new SilenceBall().look(), 1);
        for (int last = 1; last <= 21; last++) {
            SilenceBall ball = Due.ball("rises 1 - ( depth = " + (last - 1) + " and gaps < 5 ) ;");
            Due.is("parted behind " + last, ball.look(), last <= 20 ? last : -1);
        }
    }

    /** Behind which the greatest number of these by which it is as deep is the least; of equal ones the first. */
    private static void lookFirst() {
        Due.is("of twenty the first", Due.ball("rises gaps ;").look(), 1);
        // behind 1 nine are 1 deep; behind 2 four of these are, five are 2 deep; then three of these may go on
        String law = "rises ( depth = 0 and 0 < gaps ) + ( depth = 1 and 4 < gaps )";
        Due.is("one of nine", Due.ball("rises depth = 0 and 0 < gaps ;").look(), 1);
        Due.is("four at 1, five at 2", Due.ball(law + " ;").look(), 2);
        Due.is("then three and two", Due.ball(law + " + ( depth = 2 and 6 < gaps ) ;").look(), 3);
        Due.is("then no better", Due.ball(law + " + ( depth = 2 and 9 < gaps ) ;").look(), 2);
        // the greatest number is of the least holes
        Due.is("nine at 1", Due.ball("rises depth = 0 and gaps < 9 ;").look(), 1);
        Due.is("five at 2, four at 1", Due.ball("rises ( depth = 0 and gaps < 9 ) + ( depth = 1 and gaps < 5 ) ;").look(), 2);
        Due.is("then four and four", Due.ball("rises ( depth = 0 and gaps < 9 ) + ( depth = 1 and gaps < 5 ) + ( depth = 2 and gaps < 1 ) * 2 ;").look(), 3);
        SilenceBall ball = Due.ball(law + " ;");
        ball.see(1, 9);
        Due.is("of these alone: four alike", ball.look(), -1);
        ball = Due.ball("rises ( depth = 0 and 0 < gaps ) + ( depth = 1 and 4 < gaps ) + ( depth = 2 and 6 < gaps ) ;");
        ball.see(1, 1);
        Due.is("of nine", ball.look(), 3);
        ball.see(3, 3);
        Due.is("of three", ball.look(), -1);
    }

    /** Of these: those by which not all SEEN is so are not told, as deep as they may be. */
    private static void lookOfTheseAlone() {
        // behind 1 it is 1 deep by three holes, 0 by all others; from 2 on it is 9 deep by two and by three, 0 by all others
        SilenceBall ball = Due.ball(Due.guest("g", "shabby", 2, 1, 1, 1)
            + "rises talk * ( gaps = 3 ) + ( 1 - talk ) * ( 1 < gaps and gaps < 4 ) * ( 9 - depth ) ;");
        Due.is("two of ten", ball.look(), 2);
        ball.see(9, 2);
        Due.is("two are left", ball.holes(), 12);
        Due.is("though two is as deep as many that are not", ball.look(), 1);
        ball.see(0, 1);
        Due.is("one is left", ball.holes(), 4);
        Due.is("none parts it", ball.look(), -1);
    }

    /** If that is less than all; NONE: none parts them. */
    private static void lookNone() {
        Due.is("all alike", Due.ball("rises 3 ;").look(), -1);
        for (int holes = 0; holes <= 9; holes++) {
            SilenceBall one = new SilenceBall();
            one.see(holes, 1);
            Due.is("one, " + holes, one.look(), -1);
            one.see(holes + 1, 1);
            Due.is("none", one.look(), -1);
        }
        SilenceBall ball = Due.ball("rises gaps * 9 ;");
        ball.see(60, 7);
        Due.is("nine, of which all but one are 9 deep", ball.holes(), 1022);
        Due.is("none parts them", ball.look(), -1);
    }

    /** Sunk in the third minute if it was asked ahead of the first; 1 deeper each minute for each hole. */
    private static SilenceBall asked() {
        return Due.ball(Due.guest("g", "plain", 5, 1, 1, 1) + Due.guest("h", "waver", 5, 1, 1, 1));
    }

    /** CHANCE of so many (1 to 6) MINUTES, by odds (0 to 10), in millionths; NONE: others. */
    private static void chanceRange() {
        SilenceBall ball = asked();
        for (int odds = 0; odds <= 10; odds++) {
            Due.is("1 by " + odds, ball.chance(0, 1, odds), 0);
            Due.is("2 by " + odds, ball.chance(0, 2, odds), 0);
            Due.is("3 by " + odds, ball.chance(0, 3, odds), 100000 * odds);
            Due.is("4 by " + odds, ball.chance(0, 4, odds), 10000 * (100 - (10 - odds) * (10 - odds)));
            Due.is("6 by " + odds, ball.chance(0, 6, odds), 1000000 - 100 * (10 - odds) * (10 - odds) * (10 - odds) * (10 - odds));
        }
        int[][] others = {{0, 0, 5}, {0, 7, 5}, {0, -1, 5}, {0, 3, -1}, {0, 3, 11}, {2, 3, 5}, {-1, 3, 5}};
        for (int[] it : others) {
            Due.is("chance of others", ball.chance(it[0], it[1], it[2]), -1);
        }
        for (int other : FAR) {
            Due.is("others", ball.chance(other, 3, 5), -1);
            Due.is("others", ball.chance(0, other, 5), -1);
            Due.is("others", ball.chance(0, 3, other), -1);
        }
        Due.is("none told", new SilenceBall().chance(0, 1, 1), -1);
    }

    /** Somebody ASKS by odds of ten, if it can be. */
    private static void chanceIfItCanBe() {
        String guest = Due.guest("g", "plain", 5, 9, 1, 1);
        // sunk in the second if there were ten holes
        SilenceBall ball = Due.ball(guest + "holes 9 ; water 9 ; rises 9 < gaps ;");
        Due.is("at 9 it can't be", ball.chance(0, 6, 10), 0);
        ball = Due.ball(guest + "holes 8 ; water 9 ; rises 8 < gaps ;");
        Due.is("at 8 it can", ball.chance(0, 2, 3), 300000);
        Due.is("once", ball.chance(0, 3, 3), 510000);
    }

    /** Ahead of each MINUTE. */
    private static void chanceAhead() {
        SilenceBall ball = Due.ball(Due.guest("g", "plain", 5, 9, 1, 1) + "water 9 ;");
        Due.is("of the first, sunk in the second", ball.chance(0, 2, 7), 700000);
        Due.is("not of the second", ball.chance(0, 1, 10), 0);
        ball = Due.ball(Due.guest("g", "plain", 5, 9, 6, 1) + "water 10 ; rises 0 - gaps ;");
        Due.is("never asked", ball.chance(0, 6, 1), 590490);
    }

    /** That a GUEST is SUNK behind these. */
    private static void chanceGone() {
        SilenceBall ball = Due.ball(Due.guest("g", "shabby", 1, 1, 1, 1) + Due.guest("h", "plain", 5, 1, 1, 1) + Due.guest("i", "waver", 5, 1, 1, 1)
            + "water 9 ; rises 0 ;");
        Due.is("for sure", ball.chance(1, 1, 0), 1000000);
        ball.minute();
        Due.is("SAFE", ball.chance(0, 6, 10), 0);
        Due.is("SUNK", ball.chance(1, 1, 5), 1000000);
        Due.is("a waver", ball.chance(2, 6, 10), 0);
    }

    private static int rests(int lose, int waves, int talks, int what) {
        try {
            return new SilenceBall().rests(lose, waves, talks, what);
        } catch (NoSuchElementException none) {
            return THROWN;
        }
    }

    /** RESTS: by which neither would get more by the other: each of 0 to 9, how many and which, the least first. */
    private static void restsRange() {
        for (int lose = 0; lose <= 9; lose++) {
            for (int waves = 0; waves <= 9; waves++) {
                for (int talks = 0; talks <= 9; talks++) {
                    int found = 0;
                    String told = "rests " + lose + ", " + waves + ", " + talks;
                    if (waves == 0) {
                        Due.is(told + " both talk", rests(lose, waves, talks, found++), 0);
                    }
                    Due.is(told + " the other waves", rests(lose, waves, talks, found++), 1);
                    Due.is(told + " the first waves", rests(lose, waves, talks, found++), 2);
                    if (lose == 0 && talks == 0) {
                        Due.is(told + " both wave", rests(lose, waves, talks, found++), 3);
                    }
                    Due.is(told + " no more", rests(lose, waves, talks, found), THROWN);
                    Due.is(told + " how many", rests(lose, waves, talks, -1), found);
                }
            }
        }
    }

    /** As much is not more: with nothing to be had all four rest. */
    private static void restsByOdds() {
        Due.is("of nothing", rests(0, 0, 0, -1), 4);
        for (int i = 0; i < 4; i++) {
            Due.is("of nothing", rests(0, 0, 0, i), i);
        }
    }

    /** NoSuchElementException: others, none such. */
    private static void restsThrows() {
        for (int other : new int[] {Integer.MIN_VALUE, -2, -1, 10, 11, Integer.MAX_VALUE}) {
            Due.is("lose " + other, rests(other, 1, 1, -1), THROWN);
            Due.is("waves " + other, rests(1, other, 1, -1), THROWN);
            Due.is("talks " + other, rests(1, 1, other, -1), THROWN);
            Due.is("lose " + other, rests(other, 1, 1, 0), THROWN);
            Due.is("waves " + other, rests(1, other, 1, 0), THROWN);
            Due.is("talks " + other, rests(1, 1, other, 0), THROWN);
        }
        for (int other : new int[] {Integer.MIN_VALUE, -2, 2, 3, 4, Integer.MAX_VALUE}) {
            Due.is("the " + other, rests(1, 1, 1, other), THROWN);
        }
    }

    /** BALLS by a SEED (0 to 9999) of so many (1 to 99) MINUTES, what 0 .. 2; NONE: others. */
    private static void ballsRange() {
        SilenceBall ball = Due.ball(Due.guest("g", "shabby", 9, 1, 1, 1) + Due.guest("h", "plain", 9, 40, 9, 1) + "water 40 ; rises 1 ;");
        for (int seed : new int[] {0, 1, 9998, 9999}) {
            Due.is("none cast", ball.balls(seed, 99, 0), 0);
            Due.is("8 minutes", ball.balls(seed, 8, 2), 0);
            Due.is("9 minutes", ball.balls(seed, 9, 2), 1);
            Due.is("9 minutes", ball.balls(seed, 9, 1), 0);
            Due.is("10 minutes", ball.balls(seed, 10, 1), 2);
            Due.is("1 minute", ball.balls(seed, 1, 1), 0);
            Due.is("99 minutes", ball.balls(seed, 99, 2), 1);
        }
        int[][] others = {{-1, 1, 0}, {10000, 1, 0}, {0, 0, 0}, {0, 100, 0}, {0, -1, 0}, {0, 1, -1}, {0, 1, 3}};
        for (int[] it : others) {
            Due.is("balls of others", ball.balls(it[0], it[1], it[2]), -1);
        }
        for (int other : FAR) {
            Due.is("others", ball.balls(other, 1, 0), -1);
            Due.is("others", ball.balls(1, other, 0), -1);
            Due.is("others", ball.balls(1, 1, other), -1);
        }
    }

    /** Each, if there are MEN and GUESTS and BELTS; then, also without these, the MINUTE. */
    private static void ballsNeedAll() {
        String guest = Due.guest("g", "plain", 9, 1, 1, 1);
        String law = "rises gaps * 9 ;";
        for (int seed = 0; seed < 5; seed++) {
            Due.is("all there: asked", Due.ball(guest + Due.belt("b", 1) + Due.man("m", 0, 0) + law).balls(seed, 99, 1), 1);
            Due.is("no men", Due.ball(guest + Due.belt("b", 1) + law).balls(seed, 99, 1), 0);
            Due.is("no belts", Due.ball(guest + Due.man("m", 0, 0) + law).balls(seed, 99, 1), 0);
            Due.is("no guests", Due.ball(Due.belt("b", 1) + Due.man("m", 0, 0) + law).balls(seed, 99, 0), 0);
            Due.is("the minutes go by", Due.ball(guest + Due.man("m", 0, 0) + "water 2 ;").balls(seed, 1, 1), 1);
        }
        Due.is("nothing told", new SilenceBall().balls(0, 99, 0) + new SilenceBall().balls(9999, 99, 1) + new SilenceBall().balls(5, 99, 2), 0);
    }

    /** A DRAW below m: g becomes (g * 1103515245 + 12345) modulo 2147483648; it is g / 65536, cut, modulo m. */
    private static void ballsDraws() {
        // six guests at nine places, whom one man of three reaches or not: who is cast to is seen by who is SAFE at last
        StringBuilder text = new StringBuilder();
        for (int g = 0; g < 6; g++) {
            text.append(Due.guest("g" + (char) ('a' + g), "waver", 1, 1, 1, 1));
        }
        for (int b = 0; b < 5; b++) {
            text.append(Due.belt("b" + (char) ('a' + b), 1));
        }
        text.append(Due.man("ma", 1, 0)).append(Due.man("mb", 2, 0)).append(Due.man("mc", 1, 0));
        SilenceBall ball = Due.ball(text.toString());
        for (int seed = 0; seed < 10000; seed += 101) {
            long g = seed;
            int safe = 0;
            int cast = 0;
            for (int n = 0; n < 3; n++) {
                int[] drawn = new int[4];
                int[] below = {3, 5, 6, 5};
                for (int i = 0; i < 4; i++) {
                    g = (g * 1103515245L + 12345L) % 2147483648L;
                    drawn[i] = (int) (g / 65536L) % below[i];
                }
                boolean casts = (drawn[3] == 2 || drawn[3] == 3) && drawn[0] != 1 && (safe >> drawn[2] & 1) == 0;
                cast += casts ? 1 : 0;
                safe |= casts ? 1 << drawn[2] : 0;
            }
            Due.is("cast by " + seed, ball.balls(seed, 3, 0), cast);
            Due.is("safe by " + seed, ball.balls(seed, 3, 2), safe);
        }
    }

    /** 0: ASK, 1: that one STOPS, 2, 3: that one CASTS; nothing by 4. */
    private static void ballsFigures() {
        // 1 deep behind the first minute, 4 if it was asked, 8 if a hole was stopped: told by who is SUNK behind the second
        String room = Due.guest("g", "plain", 9, 1, 1, 9) + Due.guest("h", "plain", 9, 4, 1, 9) + Due.belt("b", 1) + Due.man("m", 9, 0)
            + "holes 1 ; rises 1 + 3 * ( gaps = 2 ) + 7 * ( gaps = 0 ) ;";
        int[] many = new int[5];
        for (int seed = 0; seed < 100; seed++) {
            long g = seed;
            for (int i = 0; i < 4; i++) {
                g = (g * 1103515245L + 12345L) % 2147483648L;
            }
            int figure = (int) (g / 65536L % 5);
            many[figure]++;
            SilenceBall ball = Due.ball(room);
            Due.is("cast by " + figure, ball.balls(seed, 1, 0), figure == 2 || figure == 3 ? 1 : 0);
            Due.is("sunk by " + figure, ball.balls(seed, 2, 1), figure == 0 ? 1 : figure == 1 ? 3 : 0);
        }
        for (int figure = 0; figure < 5; figure++) {
            Due.is("there are some of " + figure, many[figure] > 0, true);
        }
    }

    /** Each if it can be. */
    private static void ballsIfItCanBe() {
        String men = Due.man("m", 9, 0);
        SilenceBall ball = Due.ball(Due.guest("g", "shabby", 9, 1, 1, 1) + Due.belt("b", 1) + men);
        Due.is("a shabby one is not cast to", ball.balls(3, 8, 0), 0);
        ball = Due.ball(Due.guest("g", "waver", 1, 1, 1, 1) + Due.belt("b", 1) + men);
        Due.is("too far", ball.balls(3, 99, 0), 0);
        ball = Due.ball(Due.guest("g", "waver", 9, 1, 1, 1) + Due.belt("b", 1) + men);
        Due.is("once, then he has one, then he is SAFE", ball.balls(3, 99, 0), 1);
        Due.is("SAFE", ball.balls(3, 99, 2), 1);
        // ten holes would sink him, and less than none
        ball = Due.ball(Due.guest("g", "plain", 8, 40, 9, 1) + Due.belt("b", 1) + men + "holes 9 ; rises 9 * ( 9 < gaps or gaps < 0 ) ;");
        Due.is("9 at most", ball.balls(7, 99, 1), 0);
        ball = Due.ball(Due.guest("g", "plain", 8, 40, 9, 1) + Due.belt("b", 1) + men + "rises 9 * ( 9 < gaps or gaps < 0 ) ;");
        Due.is("0 at least", ball.balls(7, 99, 1), 0);
    }

    /** From now on (all is as ahead then). */
    private static void ballsFromNowOn() {
        SilenceBall ball = Due.ball(Due.guest("g", "shabby", 9, 1, 1, 1) + Due.guest("h", "plain", 9, 1, 9, 1) + "water 2 ;");
        Due.pass(ball, 8);
        Due.is("SAFE by 1", ball.balls(1, 1, 2), 1);
        Due.is("SUNK by 1", ball.balls(1, 1, 1), 2);
        Due.is("as ahead", ball.count(3), 8);
        Due.is("as ahead", ball.count(6), 3);
        Due.is("as ahead", ball.count(12), 8);
        ball.minute();
        Due.is("who is SAFE already", ball.balls(1, 1, 2), 1);
        Due.is("who is SUNK already", ball.balls(1, 1, 1), 2);
        // a man who has done something is not FREE in the first of them
        String text = Due.guest("g", "waver", 1, 1, 1, 1) + Due.belt("b", 1) + Due.man("m", 1, 0) + "holes 1 ;";
        int differ = 0;
        for (int seed = 0; seed < 20; seed++) {
            SilenceBall free = Due.ball(text);
            SilenceBall busy = Due.ball(text);
            busy.stop(0);
            Due.is("he can't cast", busy.balls(seed, 1, 0), 0);
            differ += free.balls(seed, 1, 0);
        }
        Due.is("some would be cast", differ > 0, true);
    }
}
