/** Promises 1 to 4: a new object, feed, room, evening. */
public final class ReadingTest {
    private static final String GUEST = "guest g plain at 1 chin 1 breath 1 weighs 1 ;";

    public static void main(String[] args) {
        newObject();
        feed();
        roomTaken();
        roomBegins();
        tokens();
        strayTokens();
        numbers();
        names();
        once();
        tooMany();
        laws();
        longLaws();
        levels();
        evenings();
        eveningFaults();
        Due.end();
    }

    private static void newObject() {
        SilenceBall ball = new SilenceBall();
        for (int what = -2; what <= 14; what++) {
            Due.is("count " + what + " of a new one", ball.count(what), what < 0 || what > 13 ? -1 : 0);
        }
        Due.is("evening of nothing", ball.evening(), 0);
        Due.is("room of nothing", ball.room(), 0);
        Due.is("NONE", SilenceBall.NONE, -1);
    }

    private static void feed() {
        SilenceBall ball = new SilenceBall();
        Due.is("24 signs", ball.feed(0x6161616161616161L, 0x6161616161616161L, 0x6161616161616161L), 24);
        Due.is("signs left out", ball.feed(0x000a1f207e7f80ffL, -1, 0), 27);
        Due.is("signs on the tape", ball.count(13), 27);
        ball.room();
        // the highest byte is the first: "belt b b"
        ball.feed(0x62656c7420622062L, 0, 0);
        Due.is("order of the bytes", ball.room(), 1 + 16 * 7);
        // a, then b, then c
        ball.feed(0x62656c7420622062L, 0x65617273L << 32, 0x39203b0000000000L);
        Due.is("order of the three", ball.room(), 0);
        Due.is("what was told by the three", ball.belt(0, 0), 9);
        for (int n = 0; n < 41; n++) {
            ball.feed(0x2020202020202020L, 0x2020202020202020L, 0x2020202020202020L);
        }
        Due.is("984 signs", ball.count(13), 984);
        Due.is("not beyond 1000", ball.feed(0x2020202020202020L, 0x2020202020202020L, 0x6161616161616161L), 1000);
        Due.is("none more", ball.feed(0x6161616161616161L, 0, 0), 1000);
        Due.is("what is beyond is left out", ball.room(), 0);
        Due.is("empty then", ball.count(13), 0);
    }

    /** A fault leaves all but the tape, a room without one leaves nothing. */
    private static void roomTaken() {
        SilenceBall ball = Due.ball();
        Due.evening(ball, "ask ; minute ;");
        ball.see(6, 1);
        ball.mark(2, false);
        ball.cast(0, 0, 0);
        ball.minute();
        Due.is("a wrong room", Due.room(ball, "holes 3 ; water 2 ; guest"), 1 + 16 * 25);
        Due.is("guests", ball.count(0), 4);
        Due.is("minute", ball.count(3), 1);
        Due.is("holes", ball.count(4), 2);
        Due.is("depth", ball.count(5), 6);
        Due.is("lines", ball.count(10), 2);
        Due.is("seen", ball.count(11), 1);
        Due.is("acts", ball.count(12), 2);
        Due.is("belt", ball.guest(0, 5), 0);
        Due.is("mark", ball.mark(2, true), true);
        Due.is("seen by the mark", ball.count(11), 1);
        ball.minute();
        Due.is("another room", Due.room(ball, "guest z shabby at 9 chin 40 breath 9 weighs 30 ; holes 9 ; water 40 ;"), 0);
        Due.is("no mark", ball.mark(2, true), false);
        Due.is("nothing to undo", ball.undo(), false);
        Due.is("acts", ball.count(12), 0);
        Due.is("lines", ball.count(10), 0);
        Due.is("seen", ball.count(11), 0);
        Due.is("minute", ball.count(3), 0);
        Due.is("belts", ball.count(1), 0);
        Due.is("men", ball.count(2), 0);
        Due.is("guests", ball.count(0), 1);
        Due.is("holes", ball.count(4), 9);
        Due.is("depth", ball.count(5), 40);
        Due.is("a room of nothing", Due.room(ball, " \n "), 0);
        Due.is("no guests", ball.count(0), 0);
        Due.is("no holes", ball.count(4), 0);
        Due.is("no depth", ball.count(5), 0);
    }

    private static void roomBegins() {
        SilenceBall ball = Due.ball("rises 1 - 2 ; " + Due.GUESTS + Due.REST);
        Due.is("all in it", ball.count(6), 15);
        Due.is("on the wall", ball.count(9), 7);
        Due.is("by the law", ball.later(3), 1);
        Due.room(ball, Due.GUESTS + Due.REST);
        Due.is("the law is gone", ball.later(3), 10);
        ball.stop(0);
        Due.pass(ball, 4);
        ball.stop(1);
        Due.is("ann is sunk", ball.count(8), 1);
        Due.room(ball, Due.GUESTS + Due.REST);
        Due.is("ann is in it", ball.count(6), 15);
        Due.is("breath", ball.guest(0, 3), 2);
        Due.is("where", ball.guest(3, 1), 2);
        Due.is("free", ball.man(1, 2), 1);
        for (int n = 1; n <= 3; n++) {
            Due.is("told once in each", Due.room(ball, "rises " + n + " ; holes 1 ; water 1 ;"), 0);
            Due.is("the new law", ball.later(1), 1 + n);
        }
    }

    private static void tokens() {
        Due.right("guest g plain at1chin1breath1weighs1;belt b bears 1;");
        Due.right("guest g plain\nat 0001 chin\n\n40 breath 9 weighs 30;");
        Due.right("belt abcdefgh bears 40 ;");
        Due.fault("belt |abcdefghi bears 40 ;", 1);
        Due.fault("belt b bears |00001 ;", 1);
        Due.fault("|Belt b bears 1 ;", 1);
        Due.fault("|?belt", 1);
        Due.fault("belt b|_ bears 1", 1);
        Due.fault("belt b bears 1 |. ;", 1);
        Due.fault("holes 1|, ", 1);
        // a number may stand right behind a word: two tokens
        Due.fault("belt b|1 bears 1 ;", 1);
    }

    private static void strayTokens() {
        Due.fault("|room", 1);
        Due.fault("|;", 1);
        Due.fault("|at", 1);
        Due.fault("|minute ;", 1);
        Due.fault("|1", 1);
        Due.fault("guest|", 1);
        Due.fault("guest  |", 1);
        Due.fault("guest |1", 1);
        Due.fault("guest |plain", 1);
        Due.fault("guest g |", 1);
        Due.fault("guest g |tall", 1);
        Due.fault("guest g |minute", 1);
        Due.fault("guest g |reach", 1);
        Due.fault("guest g |at", 1);
        Due.fault("guest g plain |chin", 1);
        Due.fault("guest g plain at |chin", 1);
        Due.fault("guest g plain at 1 |breath", 1);
        Due.fault("guest g plain at 1 chin 1 |weighs", 1);
        Due.fault("guest g plain at 1 chin 1 breath 1 |;", 1);
        Due.fault("guest g plain at 1 chin 1 breath 1 weighs 1 |", 1);
        Due.fault("guest g plain at 1 chin 1 breath 1 weighs 1 |guest", 1);
        Due.fault("belt b |at", 1);
        Due.fault("belt b bears |b", 1);
        Due.fault("belt b bears 1 |1", 1);
        Due.fault("man m |reach", 1);
        Due.fault("man m at 1 |;", 1);
        Due.fault("man m at 1 reach |;", 1);
        Due.fault("holes |;", 1);
        Due.fault("water |;", 1);
        Due.fault("rises |;", 1);
    }

    private static void numbers() {
        Due.fault("guest g plain at |0", 4);
        Due.fault("guest g plain at |10", 4);
        Due.fault("guest g plain at 9 chin |0", 4);
        Due.fault("guest g plain at 9 chin |41", 4);
        Due.fault("guest g plain at 9 chin 40 breath |0", 4);
        Due.fault("guest g plain at 9 chin 40 breath |10", 4);
        Due.fault("guest g plain at 9 chin 40 breath 9 weighs |0", 4);
        Due.fault("guest g plain at 9 chin 40 breath 9 weighs |31", 4);
        Due.fault("belt b bears |0", 4);
        Due.fault("belt b bears |41", 4);
        Due.fault("man m at |10", 4);
        Due.fault("man m at 9 reach |10", 4);
        Due.fault("holes |10", 4);
        Due.fault("water |41", 4);
        Due.right("guest g plain at 9 chin 40 breath 9 weighs 30 ; belt b bears 40 ; man m at 9 reach 9 ; holes 9 ; water 40 ;");
        Due.right("guest g plain at 1 chin 1 breath 1 weighs 1 ; belt b bears 1 ; man m at 0 reach 0 ; holes 0 ; water 0 ;");
        Due.right("rises 9999 ;");
        Due.fault("rises |10000 ;", 1);
    }

    private static void names() {
        String[] kept = {"guest", "at", "chin", "breath", "weighs", "belt", "bears", "man", "reach", "holes", "water", "rises",
            "minute", "cast", "ask", "stop", "plain", "waver", "heavy", "shabby", "not", "and", "or"};
        for (String word : kept) {
            Due.fault("belt |" + word + " bears 1 ;", 1);
        }
        for (String word : new String[] {"gaps", "depth", "talk", "out", "a", "z", "guests", "gues", "holesx", "buffet"}) {
            Due.right("belt " + word + " bears 1 ;");
        }
        Due.fault(GUEST + " guest |g", 3);
        Due.fault(GUEST + " belt |g", 3);
        Due.fault(GUEST + " man |g", 3);
        Due.fault("man m at 1 reach 1 ; belt |m", 3);
        Due.fault("belt b bears 1 ; man |b", 3);
        Due.fault("belt b bears 1 ; belt bb bears 1 ; belt |b", 3);
        Due.right("guest a plain at 1 chin 1 breath 1 weighs 1 ; belt b bears 1 ; man c at 1 reach 1 ; belt aa bears 1 ;");
    }

    private static void once() {
        Due.fault("holes 1 ; |holes 1 ;", 3);
        Due.fault("water 1 ; holes 1 ; |water", 3);
        Due.fault("rises 1 ; water 1 ; |rises 1 ;", 3);
    }

    private static void tooMany() {
        StringBuilder guests = new StringBuilder();
        StringBuilder belts = new StringBuilder();
        StringBuilder men = new StringBuilder();
        for (int i = 0; i < 6; i++) {
            guests.append("guest g").append((char) ('a' + i)).append(" plain at 1 chin 1 breath 1 weighs 1 ;");
        }
        for (int i = 0; i < 5; i++) {
            belts.append("belt b").append((char) ('a' + i)).append(" bears 1 ;");
        }
        for (int i = 0; i < 3; i++) {
            men.append("man m").append((char) ('a' + i)).append(" at 1 reach 1 ;");
        }
        Due.right(guests.toString() + belts + men);
        Due.fault(guests + "|guest", 5);
        Due.fault(belts + "|belt b", 5);
        Due.fault(belts.toString() + men + "|man", 5);
    }

    /** How much deeper it is by a law behind a minute, from 20 on, by 2 holes, with a guest, a belt of two out. */
    private static void law(String law, int by) {
        SilenceBall ball = Due.ball("guest g plain at 9 chin 40 breath 1 weighs 1 ; guest h plain at 9 chin 40 breath 1 weighs 1 ;"
            + " guest i plain at 9 chin 40 breath 1 weighs 1 ; belt b bears 1 ; belt c bears 1 ; man m at 9 reach 0 ;"
            + " holes 2 ; water 20 ; rises " + law + " ;");
        Due.is("cast", ball.cast(0, 1, 0), true);
        ball.minute();
        Due.is("rises " + law, ball.count(5), 20 + by);
    }

    private static void laws() {
        law("gaps", 2);
        law("talk", 3);
        law("out", 1);
        law("depth - 15", 5);
        law("depth", 9);
        law("0 - depth", -9);
        law("9", 9);
        law("10", 9);
        law("1 - 10", -9);
        law("1 - 11", -9);
        law("7 - 2 - 1", 4);
        law("7 - 2 * 3", 1);
        law("( 7 - 5 ) * 3", 6);
        law("1 + 2 < 4 - 0", 1);
        law("3 < 3", 0);
        law("3 = 3", 1);
        law("3 = 4", 0);
        law("not 0", 1);
        law("not 5", 0);
        law("not 1 + 2", 2);
        law("not ( 1 + 2 )", 0);
        law("not not 7", 1);
        law("not 0 * 3", 3);
        law("7 and 8", 1);
        law("7 and 0", 0);
        law("0 or 8", 1);
        law("0 or 0", 0);
        law("1 or 0 and 0", 0);
        law("0 and 0 or 1", 1);
        law("0 and 1 or 1 and 0", 0);
        law("2 < 3 and 3 < 2", 0);
        law("9999 * 9999 * 21 < 0", 0);
        law("9999 * 9999 * 22 < 0", 1);
        law("9999 * 9999 * 43 = 417 * 9999 + 3164", 1);
        law("1 and 1 + 1 = 2", 1);
        law("gaps=2", 1);
        law("( ( ( ( gaps ) ) ) )", 2);
        Due.fault("rises 1 |2", 1);
        Due.fault("rises 1 < 2 |< 3", 1);
        Due.fault("rises 1 = 2 |= 3", 1);
        Due.fault("rises |- 1", 1);
        Due.fault("rises 1 + |;", 1);
        Due.fault("rises 1 * |* 2", 1);
        Due.fault("rises ( 1 |;", 1);
        Due.fault("rises 1 |) ;", 1);
        Due.fault("rises ( |) ;", 1);
        Due.fault("rises |and 1 ;", 1);
        Due.fault("rises 1 and |or 1 ;", 1);
        Due.fault("rises 1 |not 1 ;", 1);
        Due.fault("rises |water ;", 1);
        Due.fault("rises not |;", 1);
        Due.fault("rises |x ;", 1);
        Due.fault("rises 1 |x ;", 1);
        Due.right("rises (1)and(2)or not(3);");
    }

    private static void longLaws() {
        SilenceBall ball = new SilenceBall();
        String law = "rises 500" + "-1".repeat(495) + ";";
        Due.is("the tape is full", Due.feed(ball, law), 1000);
        Due.is("all of it is read", ball.room(), 0);
        Due.is("500 - 495", ball.later(1), 5);
        Due.is("lines on a full tape", Due.feed(ball, "rises 1;".repeat(125)), 1000);
        Due.is("the second", ball.room(), 3 + 16 * 8);
        Due.feed(ball, "rises 7" + " ".repeat(992) + ";;");
        Due.is("what is beyond is none", ball.room(), 0);
        Due.is("the new law", ball.later(1), 7);
        // as many parts pending as can be
        law("0 or 0 = 0 + 1 * ( 1 and 2 < 1 + 1 * ( 0 or 3 = 1 + 2 * ( 1 and 4 < 3 + 2 * ( 0 or 5 = 1 + 2 * 2 ) ) ) )", 1);
        law("0 or 1 = 0 + 1 * ( 1 and 1 < 1 + 1 * ( 0 or 3 = 1 + 2 * ( 1 and 4 < 3 + 2 * ( 0 or 5 = 1 + 2 * 2 ) ) ) )", 1);
        law("0 or 1 = 0 + 1 * ( 1 and 1 < 1 + 1 * ( 0 or 3 = 1 + 2 * ( 1 and 4 < 3 + 2 * ( 0 or 6 = 1 + 2 * 2 ) ) ) )", 0);
    }

    private static void levels() {
        Due.right("rises not not not not 1 ;");
        Due.right("rises ( ( ( ( 1 ) ) ) ) ;");
        Due.right("rises ( ( 1 ) ) * ( not not ( 2 ) + ( 3 ) ) ;");
        Due.fault("rises not not not not not |1 ;", 5);
        Due.fault("rises not not not not not |not 1 ;", 5);
        Due.fault("rises not not not not not |gaps ;", 5);
        Due.fault("rises ( ( ( ( ( |( 1 ;", 5);
        Due.fault("rises ( not ( not ( |1 ;", 5);
        Due.fault("rises 1 + ( 2 * ( 3 - not ( 4 and not |5 ) ) ) ;", 5);
        Due.fault("rises not not not not not |; ;", 1);
        Due.fault("rises ( ( ( ( ( |) ;", 1);
        Due.fault("rises ( ( ( ( ( |water ;", 1);
    }

    private static void evenings() {
        SilenceBall ball = Due.ball();
        Due.is("four kinds", Due.evening(ball, "minute;cast sam flood ann;ask;stop tom;"), 0);
        Due.is("lines", ball.count(10), 4);
        Due.is("tape", ball.count(13), 0);
        Due.is("a wrong one", Due.evening(ball, "ask ; tea"), 1 + 16 * 6);
        Due.is("lines", ball.count(10), 4);
        Due.is("the first line that can't be", ball.judged(0), -1);
        StringBuilder forty = new StringBuilder();
        for (int i = 0; i < 40; i++) {
            forty.append("ask;");
        }
        Due.is("forty lines", Due.evening(ball, forty.toString()), 0);
        Due.is("lines", ball.count(10), 40);
        Due.is("no lines", Due.evening(ball, " "), 0);
        Due.is("lines", ball.count(10), 0);
        Due.is("nothing is done by it", ball.count(4), 2);
        Due.is("a room of facts", Due.room(ball, "guest out plain at 1 chin 1 breath 1 weighs 1 ; belt depth bears 1 ; man gaps at 1 reach 1 ;"), 0);
        Due.is("names like facts", Due.evening(ball, "cast gaps depth out ; stop gaps ;"), 0);
    }

    private static void eveningFaults() {
        Due.eveningFault("|tea", 1);
        Due.eveningFault("|guest", 1);
        Due.eveningFault("|;", 1);
        Due.eveningFault("ask |1", 1);
        Due.eveningFault("ask |", 1);
        Due.eveningFault("ask ; minute|", 1);
        Due.eveningFault("cast |;", 1);
        Due.eveningFault("cast |ask", 1);
        Due.eveningFault("cast |nobody", 2);
        Due.eveningFault("cast |ann", 2);
        Due.eveningFault("cast |flood", 2);
        Due.eveningFault("cast sam |ann", 2);
        Due.eveningFault("cast sam |tom", 2);
        Due.eveningFault("cast sam |9", 1);
        Due.eveningFault("cast sam |or", 1);
        Due.eveningFault("cast sam flood |sam", 2);
        Due.eveningFault("cast sam flood |dogs", 2);
        Due.eveningFault("cast sam flood |and", 1);
        Due.eveningFault("cast sam flood |gaps", 2);
        Due.eveningFault("cast sam flood ann |ann", 1);
        Due.eveningFault("stop |ann", 2);
        Due.eveningFault("stop |nobodyatall", 1);
        Due.eveningFault("stop |stop", 1);
        Due.eveningFault("stop sam |sam", 1);
        StringBuilder forty = new StringBuilder();
        for (int i = 0; i < 40; i++) {
            forty.append("ask;");
        }
        Due.eveningFault(forty + "|minute", 5);
        Due.eveningFault(forty + "|ask ;", 5);
        Due.eveningFault(forty + "|cast", 5);
        Due.eveningFault(forty + "|stop x", 5);
        Due.eveningFault(forty + "|tea", 1);
        Due.eveningFault(forty + "|;", 1);
        SilenceBall ball = new SilenceBall();
        Due.is("no man yet", Due.evening(ball, "stop sam ;"), 2 + 16 * 5);
    }
}
