import java.util.List;

/**
 * How long an object is used, promise 2 and the first term but for its laws and faults: a test for each sentence that names
 * an edge, headed by it.
 */
public final class EdgesOfReadingTest {
    private static final String[] KEPT = {"guest", "at", "chin", "breath", "weighs", "belt", "bears", "man", "reach", "holes", "water", "rises",
        "minute", "cast", "ask", "stop", "plain", "waver", "heavy", "shabby", "not", "and", "or"};
    private static final String[] FACTS = {"gaps", "depth", "talk", "out"};

    public static void main(String[] args) {
        calls512();
        signsOfTheTape();
        signsOf24();
        tapeOf1000();
        tapeCut();
        tapeIsTaken();
        tokensAreLong();
        blanks();
        words();
        numbers();
        signs();
        noneAtItsFirstSign();
        linesAnyNumber();
        guestsInRange();
        beltsInRange();
        menInRange();
        kinds();
        gapsInRange();
        waterInRange();
        numberedAsTold();
        sixGuests();
        fiveBelts();
        threeMen();
        allByTheirNames();
        told0();
        toldOnce();
        eveningLines();
        eveningForty();
        namesAreOtherWords();
        factsAreNames();
        namesAlike();
        Due.end();
    }

    /** An object is used for at most 512 calls. */
    private static void calls512() {
        SilenceBall ball = new SilenceBall();
        for (int call = 1; call <= 510; call++) {
            Due.is("call " + call, ball.minute(), 0);
        }
        Due.is("call 511", ball.undo(), true);
        Due.is("call 512", ball.count(3), 509);
    }

    /** The TAPE has signs, 10 and 32 .. 126; others are left out. */
    private static void signsOfTheTape() {
        for (int sign = 0; sign < 256; sign++) {
            int due = sign == 10 || sign >= 32 && sign <= 126 ? 1 : 0;
            Due.is("the first of a is " + sign, new SilenceBall().feed((long) sign << 56, 0, 0), due);
            Due.is("the last of a is " + sign, new SilenceBall().feed(sign, 0, 0), due);
            Due.is("the first of b is " + sign, new SilenceBall().feed(0, (long) sign << 56, 0), due);
            Due.is("the last of c is " + sign, new SilenceBall().feed(0, 0, sign), due);
        }
        SilenceBall ball = new SilenceBall();
        Due.is("none at all", ball.feed(0, 0, 0), 0);
        Due.is("none at all", ball.feed(-1, -1, -1), 0);
        Due.is("nothing is read", ball.room(), 0);
    }

    /** Up to 24 signs: the bytes of a, b, c, of each the highest first. */
    private static void signsOf24() {
        SilenceBall ball = new SilenceBall();
        Due.is("24 of 24", Due.feed(ball, "holes 7;water 31;rises 8"), 24);
        Due.is("behind them", Due.feed(ball, " ;"), 26);
        Due.is("in that order", ball.room(), 0);
        Due.is("holes", ball.count(4), 7);
        Due.is("depth", ball.count(5), 31);
        Due.is("rises", ball.later(1), 39);
        // "holes 7;" with a sign between each two that is left out
        ball.feed(0x0068006f006c0065L, 0xff73ff20ff37ff3bL, 0);
        Due.is("others are left out between them", ball.room(), 0);
        Due.is("holes", ball.count(4), 7);
    }

    /** At most 1,000 signs. */
    private static void tapeOf1000() {
        SilenceBall ball = new SilenceBall();
        Due.is("999", Due.feed(ball, " ".repeat(999)), 999);
        Due.is("1000", ball.feed(' ', 0, 0), 1000);
        Due.is("1001", ball.feed(' ', 0, 0), 1000);
        Due.is("24 more", Due.feed(ball, " ".repeat(24)), 1000);
        Due.is("signs", ball.count(13), 1000);
        ball = new SilenceBall();
        Due.feed(ball, " ".repeat(984));
        Due.is("16 of 24", Due.feed(ball, " ".repeat(24)), 1000);
    }

    /** What is beyond 1,000 is left out: it is what is fed last, and nothing else. */
    private static void tapeCut() {
        SilenceBall ball = new SilenceBall();
        Due.feed(ball, "holes 3 ;" + " ".repeat(982) + "water 5 ;tea");
        Due.is("the thousandth is the last", ball.room(), 0);
        Due.is("the first", ball.count(4), 3);
        Due.is("the last", ball.count(5), 5);
        Due.feed(ball, "holes 4 ;" + " ".repeat(983) + "water 6 ;");
        Due.is("the end is at the thousandth", ball.room(), 1 + 16 * 1000);
        Due.is("once it is read there is room", Due.feed(ball, "water 7 ;"), 9);
        Due.is("water", ball.room(), 0);
        Due.is("water", ball.count(5), 7);
    }

    /** What reads it takes it: it is empty then. */
    private static void tapeIsTaken() {
        SilenceBall ball = new SilenceBall();
        Due.feed(ball, "ask ;");
        Due.is("a wrong room", ball.room(), 1);
        Due.is("taken", ball.count(13), 0);
        Due.is("nothing is left to an evening", ball.evening(), 0);
        Due.is("no lines", ball.count(10), 0);
        Due.feed(ball, "ask ; ask ;");
        Due.is("a right evening", ball.evening(), 0);
        Due.is("taken", ball.count(13), 0);
        Due.feed(ball, "holes 1 ;");
        Due.is("a wrong evening", ball.evening(), 1);
        Due.is("taken", ball.count(13), 0);
        Due.is("nothing is left to a room", ball.room(), 0);
        Due.is("no holes", ball.count(4), 0);
        Due.feed(ball, "holes 2 ;");
        Due.is("a right room", ball.room(), 0);
        Due.is("taken", ball.count(13), 0);
        Due.is("from its begin again", Due.feed(ball, ";"), 1);
    }

    /** TOKENS, each as long as can be. */
    private static void tokensAreLong() {
        Due.fault("|beltb bears 1 ;", 1);
        Due.fault("belt b |bearsat 1 ;", 1);
        Due.fault("holes 1 ; |holesx 1 ;", 1);
        Due.fault("holes |12 ;", 4);
        Due.fault("rises |notgaps ;", 1);
        Due.fault("rises 1 |ort 2 ;", 1);
    }

    /** Blanks (10, 32) between where one likes. */
    private static void blanks() {
        Due.right("belt b bears 1;man m at 1reach 1;holes 1;rises(1<2)and(not 0);");
        Due.right("\n\n belt \n b \n\n bears\n1\n \n;\n");
        Due.right(" ");
        Due.right("\n");
        Due.fault("|be lt b bears 1 ;", 1);
        Due.fault("holes 0 |0 ;", 1);
        Due.is("a tab is left out", Due.room(new SilenceBall(), "ho\tles 1 ;"), 0);
    }

    /** WORDS (letters a .. z, 8 at most). */
    private static void words() {
        Due.right("belt a bears 1 ; belt z bears 1 ; belt abcdefgh bears 1 ; belt zzzzzzzz bears 1 ;");
        Due.fault("belt |abcdefghi bears 1 ;", 1);
        Due.fault("belt |zzzzzzzzzzzzzzzzzzzzzzzzz bears 1 ;", 1);
        for (String sign : new String[] {"A", "Z", "`", "{", "@", "["}) {
            Due.fault("belt |" + sign + " bears 1 ;", 1);
            Due.fault("belt a|" + sign + " bears 1 ;", 1);
            Due.fault("|" + sign, 1);
        }
    }

    /** NUMBERS (1 to 4 digits; a letter may stand right behind). */
    private static void numbers() {
        Due.right("holes 9;");
        Due.right("holes 09;");
        Due.right("holes 009;");
        Due.right("holes 0009;");
        Due.fault("holes |00009;", 1);
        Due.fault("holes |0000000000000000000000000009;", 1);
        Due.right("guest g plain at 1chin 1breath 1weighs 1;");
        Due.right("rises 1or 2;");
        Due.fault("holes 1|x;", 1);
        for (String sign : new String[] {"/", ":", ".", "-"}) {
            Due.fault("holes |" + sign + "1 ;", 1);
            Due.fault("holes 1|" + sign + " ;", 1);
        }
        SilenceBall ball = Due.ball("belt b bears 0040 ; rises 9999 - 9990 ;");
        Due.is("0040", ball.belt(0, 0), 40);
        Due.is("9999", ball.later(1), 9);
    }

    /** The signs ( ) < = + - * ;  All else is none. */
    private static void signs() {
        for (char sign = 33; sign < 127; sign++) {
            Due.is("a room of " + sign, Due.room(new SilenceBall(), String.valueOf(sign)), 1);
            boolean joins = "<=+-*".indexOf(sign) >= 0;
            String text = "rises 1 " + sign + " 2 ;";
            int due = joins ? 0 : sign == ';' ? 1 + 16 * 10 : 1 + 16 * 8;
            Due.is(text, Due.room(new SilenceBall(), text), due);
        }
    }

    /** All else (a longer WORD or NUMBER, too, at its first sign) is none. */
    private static void noneAtItsFirstSign() {
        Due.fault("holes 1 ; |abcdefghi", 1);
        Due.fault("holes 1 ;|abcdefghi", 1);
        Due.fault("rises 1 +|10000 ;", 1);
        Due.eveningFault("ask ;  |abcdefghi", 1);
        Due.eveningFault("stop |samsamsam ;", 1);
        Due.eveningFault("|12345", 1);
    }

    /** ROOM: any number of .., none of them too. */
    private static void linesAnyNumber() {
        SilenceBall ball = Due.ball("");
        for (int what = 0; what < 14; what++) {
            Due.is("count " + what + " of nothing", ball.count(what), 0);
        }
        Due.right("rises 1 ; man m at 1 reach 1 ; water 1 ; guest g plain at 1 chin 1 breath 1 weighs 1 ; holes 1 ; belt b bears 1 ; man n at 1 reach 1 ;");
    }

    /** A number is right from the least to the most, and held; wrong just beyond. */
    private static void range(String before, int least, int most, String after) {
        Due.right(before + least + after);
        Due.right(before + most + after);
        if (least > 0) {
            Due.fault(before + "|" + (least - 1) + after, 4);
        }
        Due.fault(before + "|" + (most + 1) + after, 4);
        Due.fault(before + "|9999" + after, 4);
        Due.fault(before + "|10000" + after, 1);
        Due.fault(before + "|x" + after, 1);
    }

    /** At 1 to 9, chin 1 to 40, breath 1 to 9, weighs 1 to 30. */
    private static void guestsInRange() {
        range("guest g plain at ", 1, 9, " chin 1 breath 1 weighs 1 ;");
        range("guest g plain at 1 chin ", 1, 40, " breath 1 weighs 1 ;");
        range("guest g plain at 1 chin 1 breath ", 1, 9, " weighs 1 ;");
        range("guest g plain at 1 chin 1 breath 1 weighs ", 1, 30, " ;");
        SilenceBall ball = Due.ball(Due.guest("g", "plain", 9, 40, 9, 30) + Due.guest("h", "shabby", 1, 1, 1, 1));
        int[][] due = {{0, 9, 40, 9, 30}, {3, 1, 1, 1, 1}};
        for (int what = 0; what < 5; what++) {
            Due.is("the most of " + what, ball.guest(0, what), due[0][what]);
            Due.is("the least of " + what, ball.guest(1, what), due[1][what]);
        }
    }

    /** KIND: plain, waver, heavy, shabby, and no other WORD. */
    private static void kinds() {
        String[] kinds = {"plain", "waver", "heavy", "shabby"};
        for (int k = 0; k < 4; k++) {
            Due.is("kind " + kinds[k], Due.ball(Due.guest("g", kinds[k], 1, 1, 1, 1)).guest(0, 0), k);
        }
        for (String word : KEPT) {
            if (!List.of(kinds).contains(word)) {
                Due.fault("guest g |" + word + " at 1 chin 1 breath 1 weighs 1 ;", 1);
            }
        }
        for (String word : FACTS) {
            Due.fault("guest g |" + word + " at 1", 1);
        }
        Due.fault("guest g |g at 1", 1);
        Due.fault("guest g |0 at 1", 1);
        Due.fault("guest g |shabbys at 1", 1);
    }

    /** Bears 1 to 40. */
    private static void beltsInRange() {
        range("belt b bears ", 1, 40, " ;");
        SilenceBall ball = Due.ball(Due.belt("b", 40) + Due.belt("c", 1));
        Due.is("the most", ball.belt(0, 0), 40);
        Due.is("the least", ball.belt(1, 0), 1);
    }

    /** At 0 to 9, reach 0 to 9. */
    private static void menInRange() {
        range("man m at ", 0, 9, " reach 1 ;");
        range("man m at 1 reach ", 0, 9, " ;");
        SilenceBall ball = Due.ball(Due.man("m", 9, 0) + Due.man("n", 0, 9));
        Due.is("at the most", ball.man(0, 0), 9);
        Due.is("reach the least", ball.man(0, 1), 0);
        Due.is("at the least", ball.man(1, 0), 0);
        Due.is("reach the most", ball.man(1, 1), 9);
    }

    /** Holes 0 to 9. */
    private static void gapsInRange() {
        range("holes ", 0, 9, " ;");
        Due.is("the most", Due.ball("holes 9 ;").count(4), 9);
        Due.is("the least", Due.ball("holes 0 ;").count(4), 0);
    }

    /** Water 0 to 40. */
    private static void waterInRange() {
        range("water ", 0, 40, " ;");
        Due.is("the most", Due.ball("water 40 ;").count(5), 40);
        Due.is("the least", Due.ball("water 0 ;").count(5), 0);
    }

    /** Numbered as told, whatever stands between. */
    private static void numberedAsTold() {
        SilenceBall ball = Due.ball(Due.guest("z", "plain", 1, 1, 1, 1) + Due.belt("y", 11) + Due.man("x", 1, 1) + Due.man("c", 2, 1) + Due.belt("b", 12)
            + Due.guest("a", "plain", 2, 1, 1, 1));
        for (int i = 0; i < 2; i++) {
            Due.is("guest " + i, ball.guest(i, 1), i + 1);
            Due.is("belt " + i, ball.belt(i, 0), i + 11);
            Due.is("man " + i, ball.man(i, 0), i + 1);
        }
        Due.is("by its names", Due.evening(ball, "cast c b a ; stop c ; cast x y z ;"), 0);
        Due.is("c is the one who casts", ball.judged(0), 1);
    }

    private static String guests(int many) {
        StringBuilder text = new StringBuilder();
        for (int i = 0; i < many; i++) {
            text.append(Due.guest("g" + (char) ('a' + i), "plain", i + 1, i + 2, i + 3, i + 4));
        }
        return text.toString();
    }

    private static String belts(int many) {
        StringBuilder text = new StringBuilder();
        for (int i = 0; i < many; i++) {
            text.append(Due.belt("b" + (char) ('a' + i), i + 5));
        }
        return text.toString();
    }

    private static String men(int many) {
        StringBuilder text = new StringBuilder();
        for (int i = 0; i < many; i++) {
            text.append(Due.man("m" + (char) ('a' + i), i + 6, i + 7));
        }
        return text.toString();
    }

    /** Guest: 6 at most; one too many: the word guest of a seventh. */
    private static void sixGuests() {
        SilenceBall ball = Due.ball(guests(6));
        Due.is("guests", ball.count(0), 6);
        Due.is("in it", ball.count(6), 63);
        for (int g = 0; g < 6; g++) {
            for (int what = 1; what < 5; what++) {
                Due.is("guest " + g + ", " + what, ball.guest(g, what), g + what);
            }
        }
        Due.is("no seventh", ball.guest(6, 0), -2);
        Due.fault(guests(6) + "|guest", 5);
        Due.fault(guests(6) + belts(1) + "|guest tea", 5);
        Due.fault(guests(6) + "|guestx", 1);
    }

    /** Belt: 5 at most; one too many: the word belt of a sixth. */
    private static void fiveBelts() {
        SilenceBall ball = Due.ball(belts(5));
        Due.is("belts", ball.count(1), 5);
        Due.is("on the wall", ball.count(9), 31);
        for (int b = 0; b < 5; b++) {
            Due.is("belt " + b, ball.belt(b, 0), b + 5);
        }
        Due.is("no sixth", ball.belt(5, 0), -2);
        Due.fault(belts(5) + "|belt", 5);
        Due.fault(belts(5) + guests(6) + "|belt ba bears 0", 5);
    }

    /** Man: 3 at most; one too many: the word man of a fourth. */
    private static void threeMen() {
        SilenceBall ball = Due.ball(men(3));
        Due.is("men", ball.count(2), 3);
        for (int m = 0; m < 3; m++) {
            Due.is("man " + m, ball.man(m, 0), m + 6);
            Due.is("his reach", ball.man(m, 1), m + 7);
        }
        Due.is("no fourth", ball.man(3, 0), -1);
        Due.fault(men(3) + "|man", 5);
        Due.fault(men(3) + belts(5) + "|man ma at", 5);
    }

    /** Numbered as told: each of a full room is found by its NAME. */
    private static void allByTheirNames() {
        for (int m = 0; m < 3; m++) {
            SilenceBall ball = Due.ball(guests(6) + belts(5) + men(3));
            ball.stop(m);
            for (int b = 0; b < 5; b++) {
                for (int g = 0; g < 6; g++) {
                    String line = "cast m" + (char) ('a' + m) + " b" + (char) ('a' + b) + " g" + (char) ('a' + g) + ";";
                    Due.is(line, Due.evening(ball, line + line + "minute;".repeat(g + 1)), 0);
                    Due.is(line + " once", ball.judged(0), 1);
                    Due.is(line + " home", ball.judged(2), 1);
                }
            }
        }
        // each man has a place that the others do not reach, each belt bears what those ahead of it do not
        SilenceBall ball = Due.ball("water 9 ;" + Due.guest("ga", "plain", 1, 1, 1, 1) + Due.guest("gb", "plain", 2, 1, 1, 2) + Due.guest("gc", "plain", 3, 1, 1, 3)
            + Due.belt("ba", 1) + Due.belt("bb", 2) + Due.belt("bc", 3) + Due.man("ma", 1, 0) + Due.man("mb", 2, 0) + Due.man("mc", 3, 0));
        Due.is("all three", Due.evening(ball, "cast mc bc gc; cast ma ba ga; cast mb bb gb; minute; minute; minute;"), 0);
        Due.is("each reaches his", ball.judged(0), -1);
        Due.is("each is borne", ball.judged(1), -1);
        Due.is("all are safe", ball.judged(2), 3);
    }

    /** Holes 0 to 9 (0). water 0 to 40 (0). Without rises: gaps. */
    private static void told0() {
        SilenceBall ball = Due.ball("water 3 ;");
        Due.is("no holes", ball.count(4), 0);
        Due.is("nothing comes in", ball.later(60), 3);
        ball = Due.ball("holes 3 ;");
        Due.is("no water", ball.count(5), 0);
        Due.is("by the holes", ball.later(2), 6);
        ball.stop(0);
        ball.ask();
        Due.is("by the holes there are", ball.later(2), 8);
    }

    /** Once each; holes, water, rises a second time. */
    private static void toldOnce() {
        Due.fault("holes 1 ; |holes 1 ;", 3);
        Due.fault("water 1 ; |water 1 ;", 3);
        Due.fault("rises 1 ; |rises 1 ;", 3);
        Due.fault("holes 0 ; water 0 ; rises gaps ; |holes 10", 3);
        Due.fault("holes 0 ; water 0 ; rises gaps ; |water x", 3);
        Due.fault("holes 0 ; water 0 ; rises gaps ; |rises", 3);
        SilenceBall ball = new SilenceBall();
        Due.room(ball, "holes 1 ; water 1 ; rises 1 ; tea");
        Due.is("what a wrong room told is not told", Due.room(ball, "holes 2 ; water 2 ; rises 2 ;"), 0);
    }

    /** EVENING: any number of .., none of them too. */
    private static void eveningLines() {
        SilenceBall ball = Due.ball();
        Due.is("four kinds", Due.evening(ball, "stop tom;ask;minute;cast sam flood ann;"), 0);
        Due.is("lines", ball.count(10), 4);
        Due.is("none", Due.evening(ball, "\n"), 0);
        Due.is("no lines", ball.count(10), 0);
        Due.is("one", Due.evening(ball, "minute ;"), 0);
        Due.is("a line", ball.count(10), 1);
    }

    /** 40 lines at most; one too many: the first word of a 41st line. */
    private static void eveningForty() {
        SilenceBall ball = Due.ball();
        Due.is("39", Due.evening(ball, "minute;".repeat(39)), 0);
        Due.is("lines", ball.count(10), 39);
        Due.is("40", Due.evening(ball, "ask;".repeat(39) + "minute;"), 0);
        Due.is("lines", ball.count(10), 40);
        Due.is("the fortieth, by which it goes by", ball.judged(0), 7);
        String forty = "cast sam flood ann;".repeat(40);
        for (String word : new String[] {"minute", "cast", "ask", "stop"}) {
            Due.eveningFault(forty + "|" + word, 5);
        }
        Due.eveningFault(forty + "|cast nobody", 5);
        Due.eveningFault(forty + "|askx", 1);
        Due.eveningFault(forty + "|1", 1);
        Due.eveningFault(forty + "|,", 1);
        Due.is("41 lines are not the evening", Due.evening(ball, "ask;".repeat(41)), 5 + 16 * 160);
        Due.is("lines", ball.count(10), 40);
    }

    /** A NAME is another WORD than guest, .. and, or. */
    private static void namesAreOtherWords() {
        for (String word : KEPT) {
            Due.fault("guest |" + word + " plain at 1 chin 1 breath 1 weighs 1 ;", 1);
            Due.fault("belt |" + word + " bears 1 ;", 1);
            Due.fault("man |" + word + " at 1 reach 1 ;", 1);
            Due.eveningFault("stop |" + word + " ;", 1);
            Due.eveningFault("cast |" + word + " flood ann ;", 1);
            Due.eveningFault("cast sam |" + word + " ann ;", 1);
            Due.eveningFault("cast sam flood |" + word + " ;", 1);
            // but for one letter it is free
            Due.right("belt " + word.substring(1) + "q bears 1 ;");
            Due.right("belt q" + word + " bears 1 ;");
        }
        Due.fault("belt |1 bears 1 ;", 1);
        Due.fault("belt |; bears 1 ;", 1);
        Due.fault("belt |", 1);
    }

    /** The words of facts are not among those. */
    private static void factsAreNames() {
        for (String fact : FACTS) {
            SilenceBall ball = Due.ball(Due.guest(fact, "waver", 2, 1, 1, 1) + Due.belt("b", 1) + Due.man("m", 1, 1) + "rises " + fact + " ;");
            Due.is("a guest " + fact, Due.evening(ball, "cast m b " + fact + " ;"), 0);
            Due.is("cast to", ball.judged(0), -1);
            Due.right(Due.belt(fact, 1) + "rises " + fact + " ;");
            Due.right("rises " + fact + " ; " + Due.man(fact, 1, 1));
        }
    }

    /** No two (GUESTS, BELTS, MEN) are alike; a NAME told already. */
    private static void namesAlike() {
        String guest = Due.guest("g", "plain", 1, 1, 1, 1);
        for (String first : new String[] {guest, Due.belt("g", 1), Due.man("g", 1, 1)}) {
            for (String word : new String[] {"guest", "belt", "man"}) {
                Due.fault(first + word + " |g", 3);
                Due.fault(first + Due.belt("h", 1) + word + " |g 10", 3);
            }
            Due.right(first + Due.belt("gg", 1) + Due.man("f", 1, 1) + Due.guest("h", "plain", 1, 1, 1, 1));
        }
        Due.fault(guests(6) + belts(5) + men(2) + "man |gf", 3);
        Due.fault(guests(6) + belts(5) + men(2) + "man |be", 3);
        Due.fault(guests(6) + belts(5) + men(2) + "man |mb", 3);
        SilenceBall ball = Due.ball(guest);
        Due.is("what the room ahead told is not told", Due.room(ball, guest), 0);
        Due.room(ball, Due.belt("b", 1) + "tea");
        Due.is("nor what a wrong room told", Due.room(ball, Due.belt("b", 1)), 0);
    }
}
