/** What the tests share: feeding a text, and the count of answers that are not as due. */
final class Due {
    static int asked = 0;
    static int wrong = 0;

    /** A room with a guest of each kind; without rises it is 2 deeper each minute: 4, 6, 8, 10 .. */
    static final String GUESTS = "guest ann plain at 3 chin 5 breath 2 weighs 10 ; guest bob waver at 5 chin 3 breath 1 weighs 8 ;"
        + " guest cy heavy at 7 chin 8 breath 3 weighs 20 ; guest dee shabby at 2 chin 1 breath 1 weighs 4 ;";
    static final String REST = " belt flood bears 12 ; belt weather bears 30 ; belt dogs bears 9 ;"
        + " man sam at 0 reach 4 ; man tom at 6 reach 2 ; holes 2 ; water 4 ;";

    static void is(String call, long got, long want) {
        asked++;
        if (got != want) {
            wrong++;
            System.out.println(call + " answered " + got + ", due is " + want);
        }
    }

    static void is(String call, boolean got, boolean want) {
        is(call, got ? 1 : 0, want ? 1 : 0);
    }

    static int feed(SilenceBall ball, String text) {
        int many = ball.count(13);
        for (int i = 0; i < text.length(); i += 24) {
            many = ball.feed(eight(text, i), eight(text, i + 8), eight(text, i + 16));
        }
        return many;
    }

    /** Behind the text's end come signs that are left out. */
    private static long eight(String text, int from) {
        long bytes = 0;
        for (int i = from; i < from + 8; i++) {
            bytes = bytes << 8 | (i < text.length() ? text.charAt(i) & 255 : 0);
        }
        return bytes;
    }

    static int room(SilenceBall ball, String text) {
        feed(ball, text);
        return ball.room();
    }

    static int evening(SilenceBall ball, String text) {
        feed(ball, text);
        return ball.evening();
    }

    static SilenceBall ball(String text) {
        SilenceBall ball = new SilenceBall();
        is("room of " + text, room(ball, text), 0);
        return ball;
    }

    static SilenceBall ball() {
        return ball(GUESTS + REST);
    }

    static String guest(String name, String kind, int at, int chin, int breath, int weighs) {
        return "guest " + name + " " + kind + " at " + at + " chin " + chin + " breath " + breath + " weighs " + weighs + " ; ";
    }

    static String belt(String name, int bears) {
        return "belt " + name + " bears " + bears + " ; ";
    }

    static String man(String name, int at, int reach) {
        return "man " + name + " at " + at + " reach " + reach + " ; ";
    }

    /** A right room. */
    static void right(String text) {
        is("room of " + text, room(new SilenceBall(), text), 0);
    }

    /** A faulty room: the fault is of this kind and of the token where the mark | stands. */
    static void fault(String marked, int kind) {
        SilenceBall ball = new SilenceBall();
        is("room of " + marked, room(ball, marked.replace("|", "")), kind + 16 * marked.indexOf('|'));
        is("tape behind " + marked, ball.count(13), 0);
    }

    static void eveningFault(String marked, int kind) {
        SilenceBall ball = ball();
        is("evening of " + marked, evening(ball, marked.replace("|", "")), kind + 16 * marked.indexOf('|'));
        is("tape behind " + marked, ball.count(13), 0);
    }

    /**
     * Three guests, sunk in 9, 18 and 27, hold it for nine minutes each; then it is 1 deeper each minute, n - 22 behind n.
     * So guest 0, at 9, cries behind chin + 23 and is sunk in chin + 23 + breath.
     */
    static SilenceBall late(int chin, int breath, String more) {
        return ball(guest("a", "plain", 9, chin, breath, 1) + guest("c", "plain", 1, 1, 9, 1) + guest("d", "plain", 2, 2, 9, 1)
            + guest("e", "plain", 3, 3, 9, 1) + "water 2 ; rises depth < 6 - talk or talk < 2 ; " + more);
    }

    /**
     * Guest 0 is sunk 53 minutes later than the shabby one is so far, and nobody ahead of that: from 1 it goes up by nines
     * to 46, to 49, where the breath is not lost yet, down to 0 between these, up by nines between them again to 45, and beyond.
     */
    static SilenceBall slow(int far) {
        StringBuilder nines = new StringBuilder("depth = 45");
        for (int n = 0; n < 5; n++) {
            nines.append(" or depth = ").append(9 * n).append(" or depth = ").append(9 * n + 1);
        }
        return ball(guest("a", "plain", 9, 40, 9, 1) + guest("b", "shabby", far, 1, 1, 1) + belt("c", 1)
            + "water 1 ; rises ( talk < 2 ) * ( 10 * ( " + nines + " ) + 2 * ( 45 < depth ) - 1 - 10 * ( depth = 49 )"
            + " - 2 * ( depth = 38 or depth = 29 or depth = 20 or depth = 11 ) - ( depth = 2 ) ) ;");
    }

    static void pass(SilenceBall ball, int minutes) {
        for (int n = 0; n < minutes; n++) {
            ball.minute();
        }
    }

    static void end() {
        System.out.println(asked + " answers, " + wrong + " not as due");
        if (wrong != 0) {
            System.exit(1);
        }
    }
}
