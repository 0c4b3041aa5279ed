import java.util.NoSuchElementException;

/** Promises 39 to 44: what is seen, chances, a wave at rest, balls. */
public final class ReckonedTest {
    public static void main(String[] args) {
        see();
        holes();
        holesFromTheBegin();
        look();
        lookTies();
        chance();
        chanceEdges();
        rests();
        restsThrows();
        balls();
        ballsBySeed();
        Due.end();
    }

    private static void see() {
        SilenceBall ball = Due.ball();
        int[][] others = {{-1, 1}, {61, 1}, {1, 0}, {1, 21}, {1, -1}, {Integer.MAX_VALUE, Integer.MAX_VALUE}};
        for (int[] other : others) {
            Due.is("others", ball.see(other[0], other[1]), false);
        }
        Due.is("nothing is seen", ball.count(11), 0);
        Due.is("the least", ball.see(0, 1), true);
        Due.is("the most", ball.see(60, 20), true);
        for (int n = 3; n <= 8; n++) {
            Due.is("the same again", ball.see(60, 20), true);
            Due.is("seen", ball.count(11), n);
        }
        Due.is("8 there are", ball.see(60, 20), false);
        Due.is("seen", ball.count(11), 8);
        Due.is("none fits", ball.holes(), 0);
        Due.is("nothing to part", ball.look(), -1);
        Due.is("nothing to undo", ball.undo(), false);
    }

    private static void holes() {
        SilenceBall ball = Due.ball();
        Due.is("any", ball.holes(), 1023);
        ball.see(40, 9);
        Due.is("4 + 9 * 4", ball.holes(), 16);
        ball.see(8, 1);
        Due.is("and 4 + 4", ball.holes(), 16);
        ball.see(9, 1);
        Due.is("but not 4 + 5", ball.holes(), 0);
        ball = Due.ball("water 5 ;");
        ball.see(60, 10);
        Due.is("60 at the most", ball.holes(), 1 << 6 | 1 << 7 | 1 << 8 | 1 << 9);
        ball.see(59, 9);
        Due.is("5 + 9 * 6", ball.holes(), 1 << 6);
    }

    private static void holesFromTheBegin() {
        // talk falls when the guest is sunk, so that the depth tells of it
        SilenceBall ball = Due.ball("guest a plain at 5 chin 5 breath 1 weighs 9 ; belt b bears 9 ; man m at 5 reach 0 ; holes 1 ; rises gaps * talk ;");
        ball.cast(0, 0, 0);
        ball.ask();
        Due.pass(ball, 4);
        // by 3: 3, 6, then a sinks in the third minute; by 2: 2, 4, 6, sunk in the fourth; by 6: 6, sunk in the second
        ball.see(6, 15);
        Due.is("from the begin, nobody doing anything", ball.holes(), 1 << 1 | 1 << 2 | 1 << 3 | 1 << 6);
        Due.is("nothing is done", ball.count(3), 4);
        Due.is("depth", ball.count(5), ball.later(0));
    }

    private static void look() {
        SilenceBall ball = Due.ball();
        Due.is("the first minute parts all", ball.look(), 1);
        ball = Due.ball("rises 1 ;");
        Due.is("none parts them", ball.look(), -1);
        // nothing is to be seen of holes but that it stops at 6 or at 12
        ball = Due.ball("rises 1 - ( gaps < 5 and 5 < depth ) - ( 4 < gaps and 11 < depth ) ;");
        Due.is("behind seven", ball.look(), 7);
        ball.see(6, 9);
        Due.is("these", ball.holes(), 31);
        Due.is("none parts these", ball.look(), -1);
        ball = Due.ball("rises 1 - ( gaps < 5 and 5 < depth ) - ( 4 < gaps and 11 < depth ) ;");
        ball.see(12, 12);
        Due.is("those", ball.holes(), 1023 - 31);
        Due.is("none parts those", ball.look(), -1);
    }

    private static void lookTies() {
        // behind one minute: 0 | 1 .. 9; behind two: two heaps of five at 1 deeper; both stay
        SilenceBall ball = Due.ball("rises ( depth = 0 and 0 < gaps ) + ( depth = 1 and 4 < gaps ) * 5 + ( 5 < depth and 7 < gaps and depth < 9 ) ;");
        // one: {0}, {1..9}; two: {0}, {1..4} at 2? no: 1 stays 1, {5..9} at 6; three: {8, 9} at 7
        Due.is("the least of the greatest", ball.look(), 3);
        ball = Due.ball("rises ( depth = 0 and 0 < gaps ) + ( depth = 1 and 4 < gaps ) * 5 ;");
        Due.is("of equal ones the first", ball.look(), 2);
        ball.see(6, 20);
        Due.is("five are left, all alike", ball.look(), -1);
        for (int holes = 0; holes <= 9; holes++) {
            ball = Due.ball();
            ball.see(4 + 3 * holes, 3);
            Due.is("one is left", ball.holes(), 1 << holes);
            Due.is("nothing to part", ball.look(), -1);
        }
        ball = Due.ball("rises 9 * ( depth = 0 ) + ( 8 < depth and depth < 18 ) * ( gaps = 0 or gaps = 9 ) + ( 11 < depth ) * ( gaps < 9 ) ;");
        // 9 behind one by all; 0 and 9 climb from then on, 9 stays behind at 12 .. when 0 makes two
        ball.see(10, 2);
        Due.is("two are left", ball.holes(), 513);
        Due.is("parted behind five", ball.look(), 5);
    }

    private static void chance() {
        // 3 breaths, chin 2, from 0: each minute it is by all questions deeper
        SilenceBall ball = Due.ball("guest a plain at 5 chin 2 breath 1 weighs 9 ;");
        // behind two: a question ahead of the first makes 1, 2 or 3 .. : under only from 3 on, so never in the second
        Due.is("one minute", ball.chance(0, 1, 5), 0);
        Due.is("two minutes", ball.chance(0, 2, 10), 0);
        // depth ahead of the third is 2 * first + second: 3 if both
        Due.is("three: both of the first two", ball.chance(0, 3, 5), 250000);
        Due.is("three by 3", ball.chance(0, 3, 3), 90000);
        Due.is("three by 10", ball.chance(0, 3, 10), 1000000);
        Due.is("three by 0", ball.chance(0, 3, 0), 0);
        // four: 3 * first + 2 * second + third, and the depth ahead of the third: first and any; or second and third
        Due.is("four by 5", ball.chance(0, 4, 5), 625000);
        Due.is("four by 1", ball.chance(0, 4, 1), 100000 + 9 * 1000);
        Due.is("nothing is done", ball.count(4), 0);
        Due.is("nothing is done", ball.count(3), 0);
        Due.is("six by 1", ball.chance(0, 6, 1), sixByOne());
    }

    /** Of six questions, a minute's depth is the sum of the holes until then: deeper than 2 ahead of the sixth. */
    private static int sixByOne() {
        int millionths = 0;
        for (int a = 0; a < 32; a++) {
            int holes = 0;
            int depth = 0;
            int odds = 10;
            for (int n = 0; n < 5; n++) {
                boolean asks = (a >> n & 1) == 1;
                holes += asks ? 1 : 0;
                depth += holes;
                odds *= asks ? 1 : 9;
            }
            millionths += depth > 2 ? odds : 0;
        }
        return millionths;
    }

    private static void chanceEdges() {
        SilenceBall ball = Due.ball();
        int[][] others = {{-1, 1, 1}, {4, 1, 1}, {0, 0, 1}, {0, 7, 1}, {0, 1, -1}, {0, 1, 11}};
        for (int[] other : others) {
            Due.is("others", ball.chance(other[0], other[1], other[2]), -1);
        }
        Due.is("a waver", ball.chance(1, 6, 10), 0);
        Due.is("cy, by the sixth at the latest", ball.chance(2, 6, 0), 1000000);
        Due.pass(ball, 3);
        Due.is("sunk already", ball.chance(0, 1, 5), 1000000);
        Due.is("safe already", ball.chance(3, 6, 5), 0);
        // at 9 it can't be asked
        ball = Due.ball("guest a plain at 5 chin 9 breath 1 weighs 9 ; holes 8 ; rises gaps = 8 ; water 8 ;");
        Due.is("never asked, it is 10 behind two", ball.chance(0, 3, 0), 1000000);
        Due.is("always asked", ball.chance(0, 3, 10), 0);
        Due.is("not asked ahead of two", ball.chance(0, 3, 2), 640000);
    }

    private static int rests(int lose, int waves, int talks, int what) {
        try {
            return new SilenceBall().rests(lose, waves, talks, what);
        } catch (NoSuchElementException none) {
            return -99;
        }
    }

    private static void restsAre(int lose, int waves, int talks, int... due) {
        String told = "rests " + lose + ", " + waves + ", " + talks;
        Due.is(told, rests(lose, waves, talks, -1), due.length);
        for (int i = 0; i < due.length; i++) {
            Due.is(told + ": " + i, rests(lose, waves, talks, i), due[i]);
        }
        Due.is(told + ": none such", rests(lose, waves, talks, due.length), -99);
    }

    private static void rests() {
        restsAre(2, 5, 1, 1, 2);
        // nothing is gained by waving alone: both talking rests too
        restsAre(2, 0, 1, 0, 1, 2);
        restsAre(0, 0, 1, 0, 1, 2);
        // nothing is lost by waving: both waving rests, if talking gets nothing
        restsAre(0, 5, 0, 1, 2, 3);
        restsAre(0, 0, 0, 0, 1, 2, 3);
        restsAre(9, 9, 9, 1, 2);
        restsAre(1, 0, 0, 0, 1, 2);
    }

    private static void restsThrows() {
        int[][] others = {{-1, 1, 1, -1}, {10, 1, 1, -1}, {1, -1, 1, -1}, {1, 10, 1, 0}, {1, 1, -1, -1}, {1, 1, 10, 0},
            {1, 1, 1, -2}, {1, 1, 1, 4}, {1, 1, 1, Integer.MAX_VALUE}, {1, 1, 1, Integer.MIN_VALUE}};
        for (int[] other : others) {
            Due.is("rests of others", rests(other[0], other[1], other[2], other[3]), -99);
        }
    }

    private static void balls() {
        SilenceBall ball = Due.ball();
        int[][] others = {{-1, 1, 0}, {10000, 1, 0}, {1, 0, 0}, {1, 100, 0}, {1, 1, -1}, {1, 1, 3}};
        for (int[] other : others) {
            Due.is("others", ball.balls(other[0], other[1], other[2]), -1);
        }
        Due.is("none cast in a room of nothing", new SilenceBall().balls(9999, 99, 0), 0);
        // without belts nothing is drawn: the minutes go by all the same
        ball = Due.ball(Due.GUESTS + " man m at 0 reach 9 ; water 4 ; holes 2 ;");
        Due.is("sunk", ball.balls(0, 3, 1), 1);
        Due.is("safe", ball.balls(0, 3, 2), 8);
        Due.is("sunk", ball.balls(0, 99, 1), 5);
        Due.is("cast", ball.balls(0, 99, 0), 0);
        Due.is("all is as ahead", ball.count(3), 0);
        // one is sunk as soon as there is a question: it needs men and guests and belts
        String guest = "guest a plain at 9 chin 1 breath 1 weighs 1 ;";
        Due.is("no men", Due.ball(guest + " belt b bears 1 ;").balls(0, 99, 1), 0);
        Due.is("no belts", Due.ball(guest + " man m at 0 reach 0 ;").balls(0, 99, 1), 0);
        Due.is("all there", Due.ball(guest + " man m at 0 reach 0 ; belt b bears 1 ;").balls(0, 99, 1), 1);
        ball = Due.ball("guest a shabby at 9 chin 1 breath 1 weighs 1 ;");
        Due.is("the shabby one walks", ball.balls(3, 9, 2), 1);
        Due.is("the shabby one walks", ball.balls(3, 8, 2), 0);
    }

    private static void ballsBySeed() {
        played(Due.GUESTS + Due.REST);
        // sunk by how many questions were asked until when, by breath
        StringBuilder text = new StringBuilder(" holes 3 ; belt flood bears 3 ; belt weather bears 30 ; belt dogs bears 9 ;"
            + " man sam at 0 reach 4 ; man tom at 6 reach 9 ; rises gaps * 3 - 10 + 2 * out ;");
        for (int g = 0; g < 4; g++) {
            text.append("guest g").append((char) ('a' + g)).append(" plain at ").append(2 * g + 2).append(" chin ").append(5 + 3 * g)
                .append(" breath ").append(g + 1).append(" weighs ").append(7 * g + 1).append(" ;");
        }
        played(text.toString());
    }

    /** Played here by hand, with the draws, upon another ball. */
    private static void played(String room) {
        SilenceBall ball = Due.ball(room);
        ball.ask();
        ball.cast(0, 2, 0);
        for (int seed = 0; seed < 10000; seed += 303) {
            int minutes = 1 + seed % 30;
            int cast = 0;
            SilenceBall other = Due.ball(room);
            other.ask();
            other.cast(0, 2, 0);
            long g = seed;
            for (int n = 0; n < minutes; n++) {
                int[] drawn = new int[4];
                int[] below = {2, 3, 4, 5};
                for (int i = 0; i < 4; i++) {
                    g = (g * 1103515245L + 12345L) & 0x7fffffffL;
                    drawn[i] = (int) ((g >> 16) % below[i]);
                }
                if (drawn[3] == 0) {
                    other.ask();
                } else if (drawn[3] == 1) {
                    other.stop(drawn[0]);
                } else if (drawn[3] < 4 && other.cast(drawn[0], drawn[1], drawn[2])) {
                    cast++;
                }
                other.minute();
            }
            String told = "balls " + seed + ", " + minutes;
            Due.is(told + " cast", ball.balls(seed, minutes, 0), cast);
            Due.is(told + " sunk", ball.balls(seed, minutes, 1), other.count(8));
            Due.is(told + " safe", ball.balls(seed, minutes, 2), other.count(7));
        }
        Due.is("all is as ahead", ball.count(3), 0);
        Due.is("all is as ahead", ball.count(12), 2);
    }
}
