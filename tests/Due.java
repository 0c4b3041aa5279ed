/** What the tests share: feeding a text, and the count of answers that are not as due. */
final class Due {
    static int asked = 0;
    static int wrong = 0;

    /** A room with a guest of each kind; without rises it is 2 deeper each minute: 4, 6, 8, 10 .. */
    static final String GUESTS = "guest ann plain at 3 chin 5 breath 2 weighs 10 ; guest bob waver at 5 chin 3 breath 1 weighs 8 ;"
        + " guest cy heavy at 7 chin 8 breath 3 weighs 20 ; guest dee shabby at 2 chin 1 breath 1 weighs 4 ;";
    static final String REST = " belt flood bears 12 ; belt weather bears 30 ; belt dogs bears 9 ;"
        + " man sam at 0 reach 4 ; man tom at 6 reach 2 ; holes 2 ; water 4 ;";

    static void is(String call, long got, long want) {
        asked++;
        if (got != want) {
            wrong++;
            System.out.println(call + " answered " + got + ", due is " + want);
        }
    }

    static void is(String call, boolean got, boolean want) {
        is(call, got ? 1 : 0, want ? 1 : 0);
    }

    static int feed(SilenceBall ball, String text) {
        int many = ball.count(13);
        for (int i = 0; i < text.length(); i += 24) {
            many = ball.feed(eight(text, i), eight(text, i + 8), eight(text, i + 16));
        }
        return many;
    }

    /** Behind the text's end come signs that are left out. */
    private static long eight(String text, int from) {
        long bytes = 0;
        for (int i = from; i < from + 8; i++) {
            bytes = bytes << 8 | (i < text.length() ? text.charAt(i) & 255 : 0);
        }
        return bytes;
    }

    static int room(SilenceBall ball, String text) {
        feed(ball, text);
        return ball.room();
    }

    static int evening(SilenceBall ball, String text) {
        feed(ball, text);
        return ball.evening();
    }

    static SilenceBall ball(String text) {
        SilenceBall ball = new SilenceBall();
        is("room of " + text, room(ball, text), 0);
        return ball;
    }

    static SilenceBall ball() {
        return ball(GUESTS + REST);
    }

    static void pass(SilenceBall ball, int minutes) {
        for (int n = 0; n < minutes; n++) {
            ball.minute();
        }
    }

    static void end() {
        System.out.println(asked + " answers, " + wrong + " not as due");
        if (wrong != 0) {
            System.exit(1);
        }
    }
}
