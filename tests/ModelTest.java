import java.util.NoSuchElementException;
import java.util.Random;

/** Runs of odd calls, some of them wrong, on a SilenceBall and on the model side by side. */
public final class ModelTest {
    private static final String[] SCRAPS = {"guest", "belt", "man", "holes", "water", "rises", "at", "chin", "breath", "weighs", "bears", "reach",
        "plain", "waver", "heavy", "shabby", "minute", "cast", "ask", "stop", "not", "and", "or", "gaps", "depth", "talk", "out",
        "(", ")", "<", "=", "+", "-", "*", ";", "0", "1", "9", "10", "41", "0007", "12345", "ga", "ba", "ma", "zz", "abcdefghi", "A", ",", "", "3ga"};

    private static Random random;
    private static SilenceBall ball;
    private static Model model;
    private static int runs;
    private static int calls;

    public static void main(String[] args) {
        int many = args.length > 0 ? Integer.parseInt(args[0]) : 2500;
        int from = args.length > 1 ? Integer.parseInt(args[1]) : 0;
        for (int seed = from; seed < from + many && Due.wrong < 20; seed++) {
            random = new Random(seed);
            ball = new SilenceBall();
            model = new Model();
            runs = seed;
            calls = 0;
            run();
        }
        Due.end();
    }

    private static int below(int most) {
        return random.nextInt(most);
    }

    private static boolean odds(int ofHundred) {
        return below(100) < ofHundred;
    }

    /** Behind the 512th call an object's answers are free, so a run ends ahead of it. */
    private static void run() {
        while (calls < 400) {
            if (odds(85)) {
                text(room(), true);
            }
            for (int i = 0; i < 60 && calls < 400; i++) {
                if (odds(4)) {
                    text(evening(), false);
                }
                act();
                ask(below(40));
            }
        }
    }

    private static void text(String text, boolean room) {
        if (odds(20)) {
            text = spoilt(text);
        }
        for (int i = 0; i < text.length(); i += 24) {
            long[] eights = new long[3];
            for (int k = 0; k < 24; k++) {
                long sign = i + k < text.length() ? text.charAt(i + k) : odds(50) ? 7 : 200;
                eights[k / 8] = eights[k / 8] << 8 | sign;
            }
            is("feed", ball.feed(eights[0], eights[1], eights[2]), model.feed(eights[0], eights[1], eights[2]));
        }
        if (room) {
            is("room " + text, ball.room(), model.room());
        } else {
            is("evening " + text, ball.evening(), model.evening());
        }
        for (int what = 0; what < 14; what++) {
            is("count " + what, ball.count(what), model.count(what));
        }
    }

    private static void is(String call, long got, long want) {
        calls++;
        Due.is("run " + runs + ": " + call, got, want);
    }

    private static void is(String call, boolean got, boolean want) {
        calls++;
        Due.is("run " + runs + ": " + call, got, want);
    }

    private static String spoilt(String text) {
        String[] words = text.split(" ", -1);
        for (int n = 1 + below(2); n > 0; n--) {
            words[below(words.length)] = SCRAPS[below(SCRAPS.length)];
        }
        String spoilt = String.join(odds(20) ? "\n" : " ", words);
        return odds(20) ? spoilt.substring(0, below(spoilt.length() + 1)) : spoilt;
    }

    private static String room() {
        StringBuilder text = new StringBuilder();
        int guests = odds(90) ? below(7) : below(8);
        for (int g = 0; g < guests; g++) {
            String kind = odds(50) ? "plain" : SCRAPS[12 + below(4)];
            text.append("guest ").append(odds(97) ? "g" + (char) ('a' + g) : SCRAPS[below(SCRAPS.length)]).append(' ').append(kind)
                .append(" at ").append(1 + below(9)).append(" chin ").append(odds(70) ? 1 + below(12) : 1 + below(40))
                .append(" breath ").append(odds(70) ? 1 + below(3) : 1 + below(9)).append(" weighs ").append(1 + below(odds(70) ? 12 : 30)).append(" ; ");
        }
        int belts = odds(90) ? below(6) : below(7);
        for (int b = 0; b < belts; b++) {
            text.append("belt b").append((char) ('a' + b)).append(" bears ").append(1 + below(odds(70) ? 16 : 40)).append(" ; ");
        }
        int men = odds(90) ? below(4) : below(5);
        for (int m = 0; m < men; m++) {
            text.append("man m").append((char) ('a' + m)).append(" at ").append(below(10)).append(" reach ").append(below(10)).append(" ; ");
        }
        text.append(odds(70) ? "holes " + below(odds(90) ? 4 : 10) + " ; " : "").append(odds(70) ? "water " + below(odds(70) ? 10 : 41) + " ; " : "");
        text.append(odds(60) ? "rises " + e(0) + " ; " : "");
        return text.toString();
    }

    private static String e(int level) {
        StringBuilder e = new StringBuilder(test(level));
        while (odds(20)) {
            e.append(odds(50) ? " and " : " or ").append(test(level));
        }
        return e.toString();
    }

    private static String test(int level) {
        return odds(75) ? sum(level) : sum(level) + (odds(60) ? " < " : " = ") + sum(level);
    }

    private static String sum(int level) {
        StringBuilder sum = new StringBuilder(product(level));
        while (odds(35)) {
            sum.append(odds(50) ? " + " : " - ").append(product(level));
        }
        return sum.toString();
    }

    private static String product(int level) {
        StringBuilder product = new StringBuilder(part(level));
        while (odds(20)) {
            product.append(odds(50) ? "*" : " * ").append(part(level));
        }
        return product.toString();
    }

    private static String part(int level) {
        int kind = below(level > 5 ? 6 : 9);
        if (kind < 2) {
            return String.valueOf(below(odds(80) ? 6 : 9999));
        }
        if (kind < 6) {
            return SCRAPS[23 + kind - 2];
        }
        return kind == 6 ? "not " + part(level + 1) : "(" + e(level + 1) + ")";
    }

    private static String evening() {
        StringBuilder text = new StringBuilder();
        int lines = odds(90) ? below(12) : below(43);
        for (int i = 0; i < lines; i++) {
            String man = "m" + (char) ('a' + below(odds(90) ? Math.max(1, model.count(2)) : 3));
            switch (below(5)) {
                case 0 -> text.append("ask ; ");
                case 1 -> text.append("stop ").append(man).append(" ; ");
                case 2 -> text.append("minute ; ");
                default -> text.append("cast ").append(man).append(" b").append((char) ('a' + below(Math.max(1, model.count(1)))))
                    .append(" g").append((char) ('a' + below(Math.max(1, model.count(0))))).append(" ; ");
            }
        }
        return text.toString();
    }

    private static int number(int most) {
        return odds(96) ? below(most) : odds(50) ? -1 - below(2) : most + below(3);
    }

    private static void act() {
        int kind = below(24);
        int m = number(3);
        int b = number(5);
        int g = number(6);
        if (kind < 8) {
            is("cast " + m + " " + b + " " + g, ball.cast(m, b, g), model.cast(m, b, g));
        } else if (kind < 10) {
            is("ask", ball.ask(), model.ask());
        } else if (kind < 12) {
            is("stop " + m, ball.stop(m), model.stop(m));
        } else if (kind < 17) {
            is("minute", ball.minute(), model.minute());
        } else if (kind < 19) {
            is("undo", ball.undo(), model.undo());
        } else if (kind < 21) {
            boolean back = odds(50);
            int mark = number(4);
            is("mark " + mark + " " + back, ball.mark(mark, back), model.mark(mark, back));
        } else if (kind == 21) {
            int minutes = number(21);
            int depth = odds(80) ? model.later(Math.max(0, minutes)) : number(61);
            is("see " + depth + " " + minutes, ball.see(depth, minutes), model.see(depth, minutes));
        }
        int what = number(14);
        is("count " + what, ball.count(what), model.count(what));
    }

    private static void ask(int kind) {
        int m = number(3);
        int b = number(5);
        int g = number(6);
        int n = number(61);
        int what = number(4) - (odds(30) ? 1 : 0);
        switch (kind) {
            case 0 -> is("later " + n, ball.later(n), model.later(n));
            case 1 -> is("over " + n, ball.over(n), model.over(n));
            case 2 -> is("sinks " + g, ball.sinks(g), model.sinks(g));
            case 3 -> is("first", ball.first(), model.first());
            case 4 -> is("home " + g, ball.home(g), model.home(g));
            case 5 -> is("quiet", ball.quiet(), model.quiet());
            case 6 -> is("when " + g, ball.when(g), model.when(g));
            case 7 -> is("lost " + n, ball.lost(n), model.lost(n));
            case 8 -> is("fits " + b, ball.fits(b), model.fits(b));
            case 9 -> is("could " + m, ball.could(m), model.could(m));
            case 10, 11, 12 -> {
                is("best", ball.best(-1), model.best(-1));
                is("best " + m, ball.best(m), model.best(m));
                is("with " + m, ball.with(m), model.with(m));
            }
            case 13, 14 -> is("need", ball.need(), model.need());
            case 15 -> is("latest " + g, ball.latest(g), model.latest(g));
            case 16 -> is("enough " + g, ball.enough(g), model.enough(g));
            case 17 -> is("near " + g, ball.near(g), model.near(g));
            case 18 -> is("gap " + g, ball.gap(g, what), model.gap(g, what));
            case 19 -> is("row", ball.row(), model.row());
            case 20 -> is("dense", ball.dense(), model.dense());
            case 21 -> is("tight", ball.tight(), model.tight());
            case 22 -> is("spare", ball.spare(), model.spare());
            case 23 -> is("save " + g + " " + m + " " + b, ball.save(g, m, b), model.save(g, m, b));
            case 24 -> is("worth " + m, ball.worth(m), model.worth(m));
            case 25, 26 -> is("holes", ball.holes(), model.holes());
            case 27, 28 -> is("look", ball.look(), model.look());
            case 29, 30 -> {
                int minutes = number(7);
                int odds = number(11);
                is("chance " + g + " " + minutes + " " + odds, ball.chance(g, minutes, odds), model.chance(g, minutes, odds));
            }
            case 31 -> rests(number(10), number(10), odds(50) ? 0 : number(10), what);
            case 32, 33 -> {
                int seed = number(10000);
                int minutes = 1 + number(odds(80) ? 20 : 99);
                is("balls " + seed + " " + minutes + " " + what, ball.balls(seed, minutes, what), model.balls(seed, minutes, what));
            }
            case 34, 35 -> is("judged " + what, ball.judged(what), model.judged(what));
            case 36 -> is("under", ball.under(), model.under());
            case 37 -> is("cries", ball.cries(), model.cries());
            case 38 -> {
                int of = number(7);
                is("guest " + g + " " + of, ball.guest(g, of), model.guest(g, of));
            }
            default -> {
                is("belt " + b + " " + what, ball.belt(b, what), model.belt(b, what));
                is("man " + m + " " + what, ball.man(m, what), model.man(m, what));
            }
        }
    }

    private static void rests(int lose, int waves, int talks, int what) {
        int got;
        int want;
        try {
            got = ball.rests(lose, waves, talks, what);
        } catch (NoSuchElementException none) {
            got = -99;
        }
        try {
            want = model.rests(lose, waves, talks, what);
        } catch (NoSuchElementException none) {
            want = -99;
        }
        is("rests " + lose + " " + waves + " " + talks + " " + what, got, want);
    }
}
