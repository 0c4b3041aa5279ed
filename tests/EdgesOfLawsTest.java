/** E and the FAULTS of the first term, promises 1, 3 and 4: a test for each sentence that names an edge, headed by it. */
public final class EdgesOfLawsTest {
    public static void main(String[] args) {
        fromTheLeft();
        oneComparison();
        sums();
        products();
        parts();
        fiveLevels();
        facts();
        comes1or0();
        notZeroIsSo();
        intsWrap();
        places();
        theEnd();
        firstFromTheLeft();
        cantStandThere();
        noOtherBegins();
        noMan();
        noBelt();
        noGuest();
        wrongTheLeast();
        aRoomIsTheRoom();
        nothingOfTheRoomAhead();
        aFaultLeavesAll();
        anEveningIsTheEvening();
        atFirst();
        anotherObject();
        Due.end();
    }

    /** How much deeper it is by a law behind a minute: from 20 on, by 4 holes, with 3 in it, a belt of two out. */
    private static void law(String law, int by) {
        SilenceBall ball = Due.ball(Due.guest("g", "plain", 9, 40, 1, 1) + Due.guest("h", "waver", 8, 40, 1, 1) + Due.guest("i", "shabby", 7, 40, 1, 1)
            + Due.belt("b", 1) + Due.belt("c", 1) + Due.man("m", 9, 0) + "holes 4 ; water 20 ; rises " + law + " ;");
        Due.is("cast", ball.cast(0, 1, 0), true);
        ball.minute();
        Due.is("rises " + law, ball.count(5), 20 + by);
    }

    /** E: TEST { and TEST or or TEST }, from the left. */
    private static void fromTheLeft() {
        law("5", 5);
        law("1 or 1 and 0", 0);
        law("0 and 0 or 1", 1);
        law("0 and ( 0 or 1 )", 0);
        law("1 or ( 1 and 0 )", 1);
        law("1 and 1 and 1 and 0 or 0 or 1", 1);
        law("7 or 0 < 0", 1);
        Due.fault("rises |and 1 ;", 1);
        Due.fault("rises |or 1 ;", 1);
        Due.fault("rises 1 and |;", 1);
        Due.fault("rises 1 or |and 1 ;", 1);
    }

    /** TEST: SUM, or SUM < SUM, or SUM = SUM. */
    private static void oneComparison() {
        law("2 < 3", 1);
        law("3 < 3", 0);
        law("4 < 3", 0);
        law("2 = 3", 0);
        law("3 = 3", 1);
        law("4 = 3", 0);
        law("1 + 2 = 3 * 1", 1);
        law("( 3 < 2 ) < 1", 1);
        for (String sign : new String[] {"<", "="}) {
            Due.fault("rises |" + sign + " 1 ;", 1);
            Due.fault("rises 1 " + sign + " |;", 1);
            Due.fault("rises 1 < 2 |" + sign + " 3 ;", 1);
            Due.fault("rises 1 = 2 |" + sign + " 3 ;", 1);
            Due.fault("rises 1 <|" + sign + " 3 ;", 1);
        }
        Due.fault("rises |<", 1);
        Due.fault("rises |> 1 ;", 1);
    }

    /** SUM: PRODUCT { + or - PRODUCT }. */
    private static void sums() {
        law("9 - 3 - 2", 4);
        law("9 - ( 3 - 2 )", 8);
        law("9 - 3 + 2", 8);
        Due.fault("rises |+ 1 ;", 1);
        Due.fault("rises |- 1 ;", 1);
        Due.fault("rises 1 + |- 1 ;", 1);
        Due.fault("rises 1 - |;", 1);
        Due.fault("rises ( |- 1 ) ;", 1);
    }

    /** PRODUCT: PART { * PART }. */
    private static void products() {
        law("2 * 2 * 2", 8);
        law("2 + 2 * 2", 6);
        law("2 * 2 + 2", 6);
        Due.fault("rises |* 1 ;", 1);
        Due.fault("rises 1 * |* 1 ;", 1);
        Due.fault("rises 1 * |;", 1);
        Due.fault("rises 1 * |- 1 ;", 1);
    }

    /** PART: a NUMBER, a fact, not PART, ( E ). */
    private static void parts() {
        law("0", 0);
        law("not 0 * 5", 5);
        law("not 0 + 5", 6);
        law("not 5 < 1", 1);
        law("2 * not not 3", 2);
        law("( ( 2 ) )", 2);
        law("( 1 < 2 and 3 ) * 4", 4);
        Due.fault("rises |;", 1);
        Due.fault("rises |) ;", 1);
        Due.fault("rises ( |) ;", 1);
        Due.fault("rises ( 1 |;", 1);
        Due.fault("rises ( 1|", 1);
        Due.fault("rises 1 |) ;", 1);
        Due.fault("rises 1 |( 1 ) ;", 1);
        Due.fault("rises 1 |1 ;", 1);
        Due.fault("rises 1 |gaps ;", 1);
        Due.fault("rises 1 |not 1 ;", 1);
        Due.fault("rises not |;", 1);
        Due.fault("rises not |and 1 ;", 1);
        Due.fault("rises |x ;", 1);
        Due.fault("rises |water ;", 1);
        Due.fault("rises |10000 ;", 1);
        Due.right("rises 9999 ;");
    }

    /** No PART lies within 5 of not and ( ); not, or a PART, within 5 others. */
    private static void fiveLevels() {
        law("not not not not 7", 1);
        law("( ( ( ( 7 ) ) ) )", 7);
        law("not ( not ( 7 ) )", 1);
        law("( ( ( ( 7 ) ) ) ) + ( ( ( ( 2 ) ) ) ) * not not not not 1 - ( not ( not 7 ) )", 8);
        String[] fives = {"not not not not not ", "( ( ( ( ( ", "not ( not ( not ", "( not not ( ( ", "( 1 + ( 2 * ( 3 < ( 4 and ( ", "( ( ( 1 ) * ( not ( "};
        for (String five : fives) {
            for (String part : new String[] {"0", "9999", "gaps", "depth", "talk", "out", "not", "("}) {
                Due.fault("rises " + five + "|" + part, 5);
            }
            for (String other : new String[] {"", ")", ";", "+", "x", "water", "and", "10000", ",", "abcdefghi"}) {
                Due.fault("rises " + five + "|" + other, 1);
            }
        }
    }

    /** Facts: gaps (holes), depth, talk (IN it), out (BELTS not on the wall). */
    private static void facts() {
        law("gaps", 4);
        law("depth - 15", 5);
        law("talk", 3);
        law("out", 1);
        SilenceBall ball = Due.ball("rises gaps + talk + out + 1 ;");
        Due.is("nothing at all", ball.later(1), 1);
        ball = Due.ball("holes 9 ; rises gaps ;");
        Due.is("all holes", ball.later(1), 9);
    }

    /** Of not, and, or, < and = comes 1 or 0. */
    private static void comes1or0() {
        law("not 7", 0);
        law("not 0", 1);
        law("7 and 8", 1);
        law("7 and 0", 0);
        law("0 and 8", 0);
        law("0 and 0", 0);
        law("7 or 8", 1);
        law("7 or 0", 1);
        law("0 or 8", 1);
        law("0 or 0", 0);
        law("( 2 < 9 ) * 3 + ( 9 = 9 ) * 4", 7);
    }

    /** What is not 0 is so: less than 0, too. */
    private static void notZeroIsSo() {
        law("( 0 - 1 ) and 1", 1);
        law("1 and 0 - 1", 1);
        law("0 - 1 or 0", 1);
        law("0 or 0 - 1", 1);
        law("not ( 0 - 1 )", 0);
        law("2 and 4", 1);
        law("not ( 4096 * 4096 * 128 )", 0);
    }

    /** Ints wrap. */
    private static void intsWrap() {
        law("9999 * 9999 * 21 < 0", 0);
        law("9999 * 9999 * 22 < 0", 1);
        law("9999 * 9999 * 21 + 9999 * 9999 < 0", 1);
        law("0 < 0 - 9999 * 9999 * 21 - 9999 * 9999", 1);
        law("4096 * 4096 * 256", 0);
        law("4096 * 4096 * 256 + 5", 5);
        law("not ( 4096 * 4096 * 256 )", 1);
        law("4096 * 4096 * 128 < 0", 1);
        law("4096 * 4096 * 128 - 1 < 0", 0);
        law("4096 * 4096 * 128 = 0 - 4096 * 4096 * 128", 1);
        law("4096 * 4096 * 128", -9);
        law("4096 * 4096 * 128 - 1", 9);
    }

    /** Kind + 16 * the place (from 0) of a token. */
    private static void places() {
        Due.fault("|tea", 1);
        Due.fault(" |tea", 1);
        Due.fault("\n\n \n|tea", 1);
        Due.fault(" ".repeat(999) + "|,", 1);
        Due.fault(" ".repeat(992) + "holes |10", 4);
        Due.eveningFault("|tea", 1);
        Due.eveningFault(" ".repeat(994) + "stop |x", 2);
    }

    /** The end being one at the text's length. */
    private static void theEnd() {
        Due.fault("holes 1|", 1);
        Due.fault("holes 1 \n |", 1);
        Due.fault("holes|", 1);
        Due.fault("holes 1" + " ".repeat(993) + "|", 1);
        Due.eveningFault("ask|", 1);
        Due.eveningFault("cast sam flood ann |", 1);
        Due.eveningFault("stop  |", 1);
        Due.eveningFault("ask" + " ".repeat(997) + "|", 1);
    }

    /** The first token from the left that is wrong. */
    private static void firstFromTheLeft() {
        Due.fault("guest g plain at |10 chin 0 breath 99 x", 4);
        Due.fault("holes 1 ; |holes 10 ; tea", 3);
        Due.fault("rises 1 < 2 |< ( ( ( ( ( 1", 1);
        Due.fault("belt b bears 1 |, belt b bears 1 ;", 1);
        Due.eveningFault("cast sam |dags nobody", 2);
        Due.eveningFault("cast |som tea , ;", 2);
        Due.eveningFault("ask |ask stop nobody", 1);
    }

    /** 1 it is none, or can't stand there. */
    private static void cantStandThere() {
        String[] lines = {"guest g plain at 1 chin 1 breath 1 weighs 1 ;", "belt b bears 1 ;", "man m at 1 reach 1 ;", "holes 1 ;", "water 1 ;", "rises 1 ;"};
        for (String line : lines) {
            String ahead = "";
            for (String word : line.split(" ")) {
                Due.fault(ahead + "|, " + word, 1);
                Due.fault(ahead + "|) " + word, 1);
                if (!ahead.isEmpty()) {
                    Due.fault(ahead + "|", 1);
                }
                if (!ahead.matches(".*(guest|belt|man) ")) {
                    Due.fault(ahead + "|reaches", 1);
                }
                ahead += word + " ";
            }
            Due.fault(ahead + "|1", 1);
            Due.fault(ahead + "|;", 1);
            Due.fault(ahead + "|minute ;", 1);
        }
        String ahead = "";
        for (String word : "minute ; cast sam flood ann ; ask ; stop tom ;".split(" ")) {
            Due.eveningFault(ahead + "|, " + word, 1);
            Due.eveningFault(ahead + "|1", 1);
            Due.eveningFault(ahead + "|holes", 1);
            ahead += word + " ";
        }
    }

    /** 1 can't stand there: a line begins by no WORD but its own, nor by anything else. */
    private static void noOtherBegins() {
        String room = "guest belt man holes water rises ";
        String evening = "minute cast ask stop ";
        String others = "at chin breath weighs bears reach plain waver heavy shabby not and or gaps depth talk out ann flood sam tea 0 9999 10000 ( ) < = + - * ;";
        for (String word : (evening + others).split(" ")) {
            Due.fault("|" + word, 1);
            Due.fault("|" + word + " ;", 1);
            Due.fault("holes 1 ; |" + word + " 1 ;", 1);
        }
        for (String word : (room + others).split(" ")) {
            Due.eveningFault("|" + word, 1);
            Due.eveningFault("|" + word + " ;", 1);
            Due.eveningFault("ask ; |" + word + " sam ;", 1);
        }
    }

    /** 2 a NAME of no MAN (behind cast, stop). */
    private static void noMan() {
        for (String name : new String[] {"ann", "dee", "flood", "dogs", "nobody", "sa", "samm", "gaps"}) {
            Due.eveningFault("cast |" + name + " flood ann ;", 2);
            Due.eveningFault("stop |" + name + " ;", 2);
        }
        SilenceBall ball = new SilenceBall();
        Due.is("there is none", Due.evening(ball, "stop m ;"), 2 + 16 * 5);
    }

    /** 2 a NAME of no BELT (the second of cast). */
    private static void noBelt() {
        for (String name : new String[] {"ann", "dee", "sam", "tom", "nobody", "floo", "floods", "out"}) {
            Due.eveningFault("cast sam |" + name + " ann ;", 2);
        }
        SilenceBall ball = Due.ball(Due.man("m", 1, 1));
        Due.is("there is none", Due.evening(ball, "cast m b"), 2 + 16 * 7);
    }

    /** 2 a NAME of no GUEST (the third of cast). */
    private static void noGuest() {
        for (String name : new String[] {"flood", "dogs", "sam", "tom", "nobody", "an", "anne", "talk"}) {
            Due.eveningFault("cast sam flood |" + name + " ;", 2);
        }
        SilenceBall ball = Due.ball(Due.man("m", 1, 1) + Due.belt("b", 1));
        Due.is("there is none", Due.evening(ball, "cast m b g"), 2 + 16 * 9);
    }

    /** Wrong the least: of two that a token is, the lesser is told. */
    private static void wrongTheLeast() {
        Due.fault("rises ( ( ( ( ( |)", 1);
        Due.eveningFault("ask;".repeat(40) + "|tea", 1);
        Due.fault("holes |10000 ;", 1);
        Due.fault("guest g plain at |chin", 1);
        Due.fault("belt |holes", 1);
        Due.fault("holes 1 ; water 1 ; belt |holes", 1);
        Due.eveningFault("cast sam |abcdefghi", 1);
    }

    /** Without a FAULT a ROOM is the ROOM from then on: minute 0, .. no MARK is there. */
    private static void aRoomIsTheRoom() {
        SilenceBall ball = Due.ball();
        ball.cast(0, 0, 0);
        ball.stop(1);
        ball.minute();
        Due.evening(ball, "ask ;");
        ball.see(6, 1);
        for (int m = 0; m < 4; m++) {
            ball.mark(m, false);
        }
        Due.pass(ball, 20);
        ball.stop(0);
        Due.is("all is another", Due.room(ball, Due.GUESTS + Due.REST), 0);
        int[] due = {4, 3, 2, 0, 2, 4, 15, 0, 0, 7, 0, 0, 0, 0};
        for (int what = 0; what < due.length; what++) {
            Due.is("count " + what + " then", ball.count(what), due[what]);
        }
        int[][] guests = {{0, 3, 5, 2, 10, -1, 0}, {1, 5, 3, 1, 8, -1, 0}, {2, 7, 8, 3, 25, -1, 0}, {3, 2, 1, 1, 4, -1, 0}};
        for (int g = 0; g < 4; g++) {
            for (int what = 0; what < 7; what++) {
                Due.is("guest " + g + ", " + what, ball.guest(g, what), guests[g][what]);
            }
        }
        Due.is("free", ball.man(0, 2) + ball.man(1, 2), 2);
        Due.is("on the wall", ball.belt(0, 1), -1);
        for (int m = 0; m < 4; m++) {
            Due.is("no mark " + m, ball.mark(m, true), false);
        }
        Due.is("nothing can be undone", ball.undo(), false);
        Due.is("no evening", ball.judged(2), 0);
        Due.is("nothing seen", ball.holes(), 1023);
    }

    /** Holes and water as told, without them 0, without rises gaps: not as the room ahead told, or a wrong one. */
    private static void nothingOfTheRoomAhead() {
        SilenceBall ball = Due.ball("holes 3 ; water 4 ; rises 5 ;" + Due.guest("g", "heavy", 1, 1, 1, 1) + Due.belt("b", 1) + Due.man("m", 1, 1));
        Due.is("deeper by 5", ball.later(1), 9);
        Due.is("a room of nothing", Due.room(ball, ""), 0);
        for (int what = 0; what < 14; what++) {
            Due.is("count " + what + " of nothing", ball.count(what), 0);
        }
        ball.ask();
        Due.is("by gaps", ball.later(1), 1);
        Due.is("a wrong room", Due.room(ball, "holes 3 ; water 4 ; rises 5 ; tea"), 1 + 16 * 30);
        Due.is("a room of one", Due.room(ball, Due.guest("h", "plain", 1, 1, 1, 1)), 0);
        Due.is("weight", ball.guest(0, 4), 1);
        Due.is("no holes", ball.count(4), 0);
        Due.is("no water", ball.count(5), 0);
        ball.ask();
        Due.is("by gaps", ball.later(1), 1);
        for (int n = 9; n > 0; n--) {
            Due.is("another law", Due.room(ball, "rises " + n + " ;"), 0);
            Due.is("deeper by " + n, ball.later(1), n);
        }
    }

    /** Or its FAULT (all stays then). */
    private static void aFaultLeavesAll() {
        SilenceBall ball = Due.ball("rises 3 ; " + Due.GUESTS + Due.REST);
        ball.mark(0, false);
        Due.evening(ball, "ask ; ask ; minute ;");
        ball.see(7, 1);
        ball.cast(0, 0, 0);
        ball.minute();
        ball.stop(1);
        String[] wrong = {"tea", "holes 5 ; water 6 ; rises 7 ;" + Due.guest("z", "heavy", 1, 1, 1, 1) + Due.belt("y", 1) + Due.man("x", 1, 1) + "tea",
            "guest ann", "rises not", "holes 5 ; holes 5 ;"};
        for (String text : wrong) {
            Due.is("wrong", Due.room(ball, text) > 0, true);
            int[] due = {4, 3, 2, 1, 1, 7, 15, 0, 0, 6, 3, 1, 3, 0};
            for (int what = 0; what < due.length; what++) {
                Due.is("count " + what + " stays", ball.count(what), due[what]);
            }
            Due.is("kind", ball.guest(0, 0), 0);
            Due.is("where", ball.guest(0, 1), 2);
            Due.is("bears", ball.belt(0, 0), 12);
            Due.is("reach", ball.man(0, 1), 4);
            Due.is("not free", ball.man(1, 2), 0);
            Due.is("the law", ball.later(1), 10);
            Due.is("the names", Due.evening(ball, "cast tom flood cy ; ask ; minute ;"), 0);
        }
        Due.is("can be undone", ball.undo(), true);
        Due.is("the mark", ball.mark(0, true), true);
    }

    /** An EVENING is the EVENING; its FAULT likewise. */
    private static void anEveningIsTheEvening() {
        SilenceBall ball = Due.ball();
        ball.cast(0, 0, 0);
        Due.evening(ball, "minute ; minute ; minute ; cast tom weather cy ; cast tom weather cy ;");
        for (String text : new String[] {"tea", "ask ; ask ; cast", "stop sam ; stop tom ; stop nobody ;"}) {
            Due.is("wrong", Due.evening(ball, text) > 0, true);
            Due.is("lines", ball.count(10), 5);
            Due.is("that can't be", ball.judged(0), 4);
            Due.is("sunk", ball.judged(1), 2);
            Due.is("safe", ball.judged(2), 1);
        }
        Due.is("another", Due.evening(ball, "ask ;"), 0);
        Due.is("lines", ball.count(10), 1);
        Due.is("all can be", ball.judged(0), -1);
        Due.is("nothing is done by it", ball.count(12), 1);
        Due.is("a belt is out", ball.count(9), 6);
    }

    /** At first: nothing. */
    private static void atFirst() {
        SilenceBall ball = new SilenceBall();
        for (int what = 0; what < 14; what++) {
            Due.is("count " + what + " of a new one", ball.count(what), 0);
        }
        Due.is("no guest", ball.guest(0, 0), -2);
        Due.is("no belt", ball.belt(0, 0), -2);
        Due.is("no man", ball.man(0, 0), -1);
        Due.is("no mark", ball.mark(0, true), false);
        Due.is("nothing to undo", ball.undo(), false);
        Due.is("no lines", ball.judged(0), -1);
        Due.is("by gaps", ball.later(9), 0);
        Due.is("a minute", ball.minute(), 0);
        Due.is("NONE", SilenceBall.NONE, -1);
    }

    /** A new object: nothing, whatever is told to another. */
    private static void anotherObject() {
        SilenceBall told = Due.ball("rises 7 ; " + Due.GUESTS + Due.REST);
        SilenceBall ball = new SilenceBall();
        Due.evening(told, "minute ;");
        told.feed(' ', 0, 0);
        told.see(1, 1);
        told.mark(0, false);
        told.minute();
        for (int what = 0; what < 14; what++) {
            Due.is("count " + what + " of another", ball.count(what), 0);
        }
        Due.is("no mark", ball.mark(0, true), false);
        Due.is("by gaps", ball.later(1), 0);
        Due.room(ball, "holes 1 ;");
        ball.minute();
        Due.is("what was told stays", told.count(0), 4);
        Due.is("what was done stays", told.count(3), 1);
        Due.is("its depth", told.count(5), 11);
        Due.is("its tape", told.count(13), 1);
    }
}
