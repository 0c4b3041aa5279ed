/** Promises 24 to 28 and 30 to 38: who can be cast to, by whom, with what, and what comes of it. */
public final class CastingTest {
    public static void main(String[] args) {
        fits();
        could();
        best();
        bestRows();
        bestBelts();
        bestOthers();
        need();
        needTies();
        enough();
        near();
        gap();
        row();
        tight();
        spare();
        save();
        worth();
        fullRoom();
        Due.end();
    }

    private static void fits() {
        SilenceBall ball = Due.ball();
        Due.is("12", ball.fits(0), 3);
        Due.is("30", ball.fits(1), 7);
        Due.is("9", ball.fits(2), 2);
        Due.is("others", ball.fits(3), -1);
        Due.is("others", ball.fits(-1), -1);
        ball.cast(0, 0, 0);
        Due.is("with a belt or not", ball.fits(0), 3);
        Due.pass(ball, 3);
        Due.is("the safe one is not in it", ball.fits(0), 2);
        ball = Due.ball("guest a heavy at 1 chin 9 breath 1 weighs 5 ; belt b bears 9 ; belt c bears 10 ;");
        Due.is("five more", ball.fits(0), 0);
        Due.is("their weight", ball.fits(1), 1);
    }

    private static void could() {
        SilenceBall ball = Due.ball();
        Due.is("sam", ball.could(0), 1);
        Due.is("tom", ball.could(1), 6);
        Due.is("others", ball.could(2), -1);
        Due.is("others", ball.could(-1), -1);
        ball.stop(1);
        Due.is("not free", ball.could(1), 0);
        ball.cast(0, 0, 0);
        ball.minute();
        Due.is("ann has one", ball.could(0), 0);
        Due.is("free again", ball.could(1), 6);
        ball = Due.ball("guest a plain at 4 chin 9 breath 1 weighs 1 ; man m at 4 reach 0 ; man n at 5 reach 0 ;");
        Due.is("though there is no belt", ball.could(0), 1);
        Due.is("too far", ball.could(1), 0);
    }

    private static void rowIs(String told, SilenceBall ball, int many, int[] guests, int[] belts) {
        Due.is(told, ball.best(-1), many);
        for (int m = 0; m < guests.length; m++) {
            Due.is(told + ": to whom " + m, ball.best(m), guests[m]);
            Due.is(told + ": which " + m, ball.with(m), belts[m]);
        }
    }

    private static void best() {
        SilenceBall ball = Due.ball();
        rowIs("bob", ball, 1, new int[] {-1, 1}, new int[] {-1, 0});
        ball.minute();
        rowIs("ann and bob", ball, 2, new int[] {0, 1}, new int[] {0, 1});
        ball.cast(0, 1, 0);
        rowIs("sam is not free", ball, 1, new int[] {-1, 1}, new int[] {-1, 0});
        ball.stop(1);
        rowIs("none is", ball, 0, new int[] {-1, -1}, new int[] {-1, -1});
        Due.is("no such man", ball.best(2), -2);
        Due.is("no such man", ball.best(-2), -2);
        Due.is("no such man", ball.with(2), -2);
        Due.is("no such man", ball.with(-1), -2);
        ball = Due.ball("guest a plain at 1 chin 9 breath 1 weighs 1 ; belt b bears 9 ; man m at 1 reach 9 ; water 9 ;");
        rowIs("nobody cries", ball, 0, new int[] {-1}, new int[] {-1});
        Due.is("no man", new SilenceBall().best(-1), 0);
    }

    private static void bestRows() {
        // the first can reach all, the second only b: both only if the first takes another
        SilenceBall ball = Due.ball("guest a plain at 9 chin 1 breath 1 weighs 1 ; guest b plain at 1 chin 1 breath 1 weighs 1 ;"
            + " belt c bears 1 ; belt d bears 1 ; man m at 5 reach 4 ; man n at 1 reach 0 ; water 9 ;");
        rowIs("both", ball, 2, new int[] {0, 1}, new int[] {0, 1});
        ball = Due.ball("guest b plain at 1 chin 1 breath 1 weighs 1 ; guest a plain at 9 chin 1 breath 1 weighs 1 ;"
            + " belt c bears 1 ; belt d bears 1 ; man m at 5 reach 4 ; man n at 1 reach 0 ; water 9 ;");
        rowIs("both, though the first guest is not the first one's", ball, 2, new int[] {1, 0}, new int[] {0, 1});
        // one belt, two men: none comes behind all others
        ball = Due.ball("guest a plain at 1 chin 1 breath 1 weighs 1 ; guest b plain at 1 chin 1 breath 1 weighs 1 ;"
            + " belt c bears 1 ; man m at 1 reach 1 ; man n at 1 reach 1 ; water 9 ;");
        rowIs("one belt", ball, 1, new int[] {0, -1}, new int[] {0, -1});
        // one guest, two men
        ball = Due.ball("guest a plain at 1 chin 1 breath 1 weighs 1 ; belt c bears 1 ; belt d bears 1 ; man m at 1 reach 1 ;"
            + " man n at 1 reach 1 ; water 9 ;");
        rowIs("one guest", ball, 1, new int[] {0, -1}, new int[] {0, -1});
        // three of each
        ball = Due.ball("guest a plain at 1 chin 1 breath 1 weighs 9 ; guest b waver at 2 chin 1 breath 1 weighs 1 ;"
            + " guest s shabby at 2 chin 1 breath 1 weighs 1 ; guest d heavy at 3 chin 1 breath 1 weighs 4 ;"
            + " belt x bears 1 ; belt y bears 9 ; belt z bears 9 ; man m at 2 reach 1 ; man n at 2 reach 1 ; man o at 2 reach 1 ; water 9 ;");
        rowIs("three", ball, 3, new int[] {0, 1, 3}, new int[] {1, 0, 2});
    }

    private static void bestBelts() {
        // the first belt bears the light one alone, so the row of belts begins with the second
        SilenceBall ball = Due.ball("guest a plain at 1 chin 1 breath 1 weighs 5 ; guest b plain at 1 chin 1 breath 1 weighs 9 ;"
            + " belt c bears 9 ; belt d bears 5 ; man m at 1 reach 1 ; man n at 1 reach 1 ; water 9 ;");
        rowIs("the light one takes the light belt", ball, 2, new int[] {0, 1}, new int[] {1, 0});
        ball = Due.ball("guest a plain at 1 chin 1 breath 1 weighs 9 ; guest b plain at 1 chin 1 breath 1 weighs 5 ;"
            + " belt c bears 5 ; belt d bears 9 ; belt e bears 9 ; man m at 1 reach 1 ; man n at 1 reach 1 ; water 9 ;");
        rowIs("of these rows the first", ball, 2, new int[] {0, 1}, new int[] {1, 0});
        // none bears the first guest
        ball = Due.ball("guest a plain at 1 chin 1 breath 1 weighs 30 ; guest b plain at 1 chin 1 breath 1 weighs 5 ;"
            + " belt c bears 4 ; belt d bears 9 ; man m at 1 reach 1 ; man n at 1 reach 1 ; water 9 ;");
        rowIs("only one who is borne", ball, 1, new int[] {1, -1}, new int[] {1, -1});
        // a belt that is out is not on the wall
        ball = Due.ball("guest a plain at 1 chin 20 breath 1 weighs 3 ; guest b plain at 1 chin 1 breath 1 weighs 5 ;"
            + " belt c bears 5 ; belt d bears 9 ; man m at 1 reach 1 ; man n at 1 reach 1 ; water 9 ;");
        ball.cast(0, 0, 0);
        rowIs("the other belt", ball, 1, new int[] {-1, 1}, new int[] {-1, 1});
    }

    private static void bestOthers() {
        SilenceBall ball = Due.ball();
        ball.minute();
        ball.best(0);
        ball.with(0);
        Due.is("nothing is cast", ball.count(9), 7);
        Due.is("all are free", ball.man(0, 2), 1);
    }

    private static void need() {
        SilenceBall ball = Due.ball();
        Due.is("bob", ball.need(), 4);
        ball.minute();
        Due.is("ann and bob", ball.need(), 5);
        Due.pass(ball, 1);
        ball.cast(0, 0, 0);
        Due.is("of belts told, on the wall or not", ball.need(), 4);
        Due.pass(ball, 1);
        Due.is("bob and cy", ball.need(), 6);
        Due.is("nobody", new SilenceBall().need(), 0);
        ball = Due.ball("guest a plain at 1 chin 1 breath 1 weighs 10 ; guest b plain at 1 chin 1 breath 1 weighs 10 ;"
            + " belt c bears 10 ; belt d bears 9 ; belt e bears 9 ; water 9 ;");
        Due.is("only one bears one of them", ball.need(), -1);
        ball = Due.ball("guest a plain at 1 chin 1 breath 1 weighs 1 ; guest b plain at 1 chin 1 breath 1 weighs 1 ; belt c bears 9 ; water 9 ;");
        Due.is("too few", ball.need(), -1);
        ball = Due.ball("guest a shabby at 1 chin 1 breath 1 weighs 1 ; belt c bears 9 ; water 9 ;");
        Due.is("nobody cries", ball.need(), 0);
    }

    private static void needTies() {
        // 10 and 4: belts 12 7 4 9 3: a 12 for the 10, a 4 for the 4
        SilenceBall ball = Due.ball("guest a plain at 1 chin 1 breath 1 weighs 10 ; guest b waver at 1 chin 1 breath 1 weighs 4 ;"
            + " belt c bears 12 ; belt d bears 7 ; belt e bears 4 ; belt f bears 9 ; belt g bears 3 ; water 9 ;");
        Due.is("16 together", ball.need(), 5);
        ball = Due.ball("guest a plain at 1 chin 1 breath 1 weighs 4 ; belt c bears 7 ; belt d bears 5 ; belt e bears 5 ; water 9 ;");
        Due.is("of equal ones the least set", ball.need(), 2);
        ball = Due.ball("guest a plain at 1 chin 1 breath 1 weighs 4 ; guest b plain at 1 chin 1 breath 1 weighs 4 ;"
            + " belt c bears 5 ; belt d bears 6 ; belt e bears 5 ; belt f bears 4 ; water 9 ;");
        Due.is("the least set of 9", ball.need(), 9);
    }

    private static void enough() {
        SilenceBall ball = Due.ball();
        int[] due = {0, 2, 1, 2};
        for (int g = 0; g < due.length; g++) {
            Due.is("enough " + g, ball.enough(g), due[g]);
        }
        Due.is("others", ball.enough(4), -1);
        Due.is("others", ball.enough(-1), -1);
        ball.cast(0, 0, 0);
        Due.pass(ball, 3);
        Due.is("safe, and all the same", ball.enough(0), 0);
        ball = Due.ball("guest a heavy at 1 chin 9 breath 1 weighs 4 ; guest b plain at 1 chin 9 breath 1 weighs 30 ;"
            + " belt c bears 11 ; belt d bears 8 ; belt e bears 9 ; belt f bears 9 ;");
        Due.is("of equal ones the first", ball.enough(0), 2);
        Due.is("none", ball.enough(1), -1);
    }

    private static void near() {
        SilenceBall ball = Due.ball();
        int[] due = {0, 1, 1, 0};
        for (int g = 0; g < due.length; g++) {
            Due.is("near " + g, ball.near(g), due[g]);
        }
        Due.is("others", ball.near(4), -1);
        Due.is("others", ball.near(-1), -1);
        ball = Due.ball("guest a shabby at 8 chin 9 breath 1 weighs 4 ; man m at 9 reach 0 ; man n at 6 reach 9 ; man o at 5 reach 1 ;");
        Due.is("reach is nothing", ball.near(0), 0);
        ball.stop(0);
        Due.is("nor is being free", ball.near(0), 0);
        ball.minute();
        Due.is("nearer", ball.near(0), 1);
        ball = Due.ball("guest a plain at 5 chin 9 breath 1 weighs 4 ; man m at 9 reach 0 ; man n at 3 reach 9 ; man o at 7 reach 1 ;");
        Due.is("of equal ones the first", ball.near(0), 1);
        ball = Due.ball("guest a plain at 5 chin 9 breath 1 weighs 4 ;");
        Due.is("no men", ball.near(0), -1);
    }

    private static void gap() {
        SilenceBall ball = Due.ball();
        Due.is("3 and 7", ball.gap(0, 2), 4);
        Due.is("7 and 3", ball.gap(2, 0), 4);
        Due.is("the same", ball.gap(1, 1), -1);
        Due.is("others", ball.gap(0, 4), -1);
        Due.is("others", ball.gap(-1, 0), -1);
        Due.is("others", ball.gap(4, 4), -1);
        Due.pass(ball, 2);
        Due.is("dee is at the buffet", ball.gap(3, 0), 3);
        ball = Due.ball("guest a plain at 5 chin 9 breath 1 weighs 4 ; guest b plain at 5 chin 9 breath 1 weighs 4 ;");
        Due.is("at one place", ball.gap(0, 1), 0);
    }

    private static void row() {
        SilenceBall ball = Due.ball();
        Due.is("one at each", ball.row(), 1);
        Due.is("the first", ball.dense(), 2);
        ball = Due.ball("guest a plain at 9 chin 9 breath 1 weighs 4 ; guest b plain at 9 chin 9 breath 1 weighs 4 ;"
            + " guest c shabby at 4 chin 9 breath 1 weighs 4 ; guest d shabby at 4 chin 9 breath 1 weighs 4 ;"
            + " guest e waver at 3 chin 9 breath 1 weighs 4 ;");
        Due.is("two", ball.row(), 2);
        Due.is("of equal ones the first", ball.dense(), 4);
        ball.minute();
        Due.is("three", ball.row(), 3);
        Due.is("at 3", ball.dense(), 3);
        Due.pass(ball, 3);
        Due.is("the safe are none", ball.row(), 2);
        Due.is("at 9", ball.dense(), 9);
        Due.is("nobody", new SilenceBall().row(), 0);
        Due.is("nobody", new SilenceBall().dense(), -1);
        ball = Due.ball("guest a plain at 1 chin 9 breath 1 weighs 4 ; guest b plain at 1 chin 9 breath 1 weighs 4 ; guest c plain at 9 chin 9 breath 1 weighs 4 ;");
        Due.is("two at 1", ball.row(), 2);
        Due.is("at 1", ball.dense(), 1);
    }

    private static void tight() {
        SilenceBall ball = Due.ball();
        Due.is("ann", ball.tight(), 0);
        ball.cast(0, 2, 0);
        Due.is("cy", ball.tight(), 2);
        ball.cast(1, 0, 2);
        Due.is("nobody such", ball.tight(), -1);
        Due.is("nobody", new SilenceBall().tight(), -1);
        ball = Due.ball("guest a plain at 9 chin 9 breath 1 weighs 4 ; guest b plain at 9 chin 3 breath 9 weighs 4 ;"
            + " guest c heavy at 4 chin 3 breath 1 weighs 4 ; guest d shabby at 4 chin 1 breath 1 weighs 4 ;"
            + " guest e waver at 3 chin 2 breath 1 weighs 4 ; water 8 ; rises 0 ;");
        Due.is("below it is less, of equal ones the first", ball.tight(), 1);
        Due.pass(ball, 8);
        Due.is("b is in it", ball.tight(), 1);
        ball.minute();
        Due.is("b is sunk", ball.tight(), 0);
    }

    private static void spare() {
        SilenceBall ball = Due.ball();
        Due.is("all bear one", ball.spare(), 0);
        ball.cast(0, 0, 0);
        Due.pass(ball, 3);
        // bob and cy are in it: 12 and 9 bear bob
        Due.is("for bob", ball.spare(), 0);
        ball = Due.ball("guest a plain at 1 chin 9 breath 1 weighs 9 ; guest b shabby at 9 chin 9 breath 1 weighs 4 ;"
            + " belt c bears 8 ; belt d bears 9 ; belt e bears 3 ; man m at 1 reach 9 ;");
        Due.is("the shabby are not meant", ball.spare(), 5);
        ball.cast(0, 0, 0);
        Due.is("not on the wall", ball.spare(), 4);
        ball.minute();
        Due.is("nobody else is in it", ball.spare(), 7);
        Due.is("none", new SilenceBall().spare(), 0);
    }

    /** As many of each as there can be: what the last ones come to. */
    private static void fullRoom() {
        StringBuilder text = new StringBuilder("water 9 ; rises 0 ;");
        for (int g = 0; g < 6; g++) {
            text.append("guest g").append((char) ('a' + g)).append(" plain at 9 chin ").append(8 - g).append(" breath ").append(6 - g)
                .append(" weighs ").append(6 - g).append(" ;");
        }
        for (int b = 0; b < 5; b++) {
            text.append("belt b").append((char) ('a' + b)).append(" bears ").append(5 - b).append(" ;");
        }
        text.append("man ma at 9 reach 9 ; man mb at 9 reach 9 ; man mc at 8 reach 1 ;");
        SilenceBall ball = Due.ball(text.toString());
        Due.is("all cry", ball.cries(), 63);
        Due.is("all are under", ball.under(), 63);
        Due.is("five belts are too few", ball.need(), -1);
        rowIs("three men", ball, 3, new int[] {1, 2, 3}, new int[] {0, 1, 2});
        Due.is("could", ball.could(2), 63);
        Due.is("fits", ball.fits(4), 32);
        Due.is("fits", ball.fits(0), 62);
        Due.is("enough", ball.enough(5), 4);
        Due.is("spare", ball.spare(), 0);
        Due.is("near", ball.near(5), 0);
        Due.is("tight", ball.tight(), 5);
        Due.is("row", ball.row(), 6);
        Due.is("first", ball.first(), 5);
        Due.is("lost", ball.lost(3), 56);
        Due.is("lost", ball.lost(60), 63);
        Due.is("quiet", ball.quiet(), 6);
        Due.is("worth", ball.worth(2), 5);
        Due.is("the last to the last by the last", ball.cast(2, 4, 5), true);
        Due.is("none bears the heaviest", ball.need(), -1);
        rowIs("two men", ball, 2, new int[] {1, 2, -1}, new int[] {0, 1, -1});
        Due.is("nobody is sunk yet", ball.minute(), 0);
        Due.is("four", ball.lost(4), 30);
        Due.is("five", ball.lost(5), 31);
        Due.pass(ball, 5);
        Due.is("the last one is held", ball.quiet(), 3);
    }

    private static void save() {
        SilenceBall ball = Due.ball();
        Due.is("that bears", ball.save(0, 0, 0), true);
        Due.is("that does not", ball.save(0, 0, 2), false);
        Due.is("too far", ball.save(0, 1, 0), false);
        Due.is("a waver", ball.save(1, 1, 2), true);
        Due.is("cy", ball.save(2, 1, 1), true);
        Due.is("cy", ball.save(2, 1, 0), false);
        Due.is("the shabby", ball.save(3, 0, 0), false);
        Due.is("others", ball.save(4, 0, 0), false);
        Due.is("others", ball.save(-1, 0, 0), false);
        Due.is("others", ball.save(0, 2, 0), false);
        Due.is("others", ball.save(0, -1, 0), false);
        Due.is("others", ball.save(0, 0, 3), false);
        Due.is("others", ball.save(0, 0, -1), false);
        Due.is("nothing is cast", ball.count(9), 7);
        Due.is("all are free", ball.man(0, 2), 1);
        ball.cast(0, 0, 0);
        Due.is("has one", ball.save(0, 1, 1), false);
        Due.is("not on the wall", ball.save(2, 1, 0), false);
        ball.undo();
        ball.stop(0);
        Due.is("not free", ball.save(0, 0, 0), false);
        // a belt that does not bear saves all the same, if the buffet is near enough
        ball = Due.ball("guest a plain at 2 chin 5 breath 3 weighs 9 ; belt b bears 1 ; man m at 2 reach 0 ; water 9 ;");
        Due.is("near the buffet", ball.save(0, 0, 0), true);
    }

    private static void worth() {
        SilenceBall ball = Due.ball();
        Due.is("sam: ann", ball.worth(0), 1);
        Due.is("tom: cy, bob is only waving", ball.worth(1), 1);
        Due.is("others", ball.worth(2), -1);
        Due.is("others", ball.worth(-1), -1);
        ball.stop(0);
        Due.is("not free", ball.worth(0), 0);
        Due.is("nothing is done", ball.count(9), 7);
        ball = Due.ball("guest a plain at 5 chin 5 breath 3 weighs 9 ; guest b heavy at 5 chin 4 breath 1 weighs 4 ;"
            + " guest c plain at 5 chin 40 breath 1 weighs 9 ; guest d plain at 5 chin 9 breath 1 weighs 30 ; guest e plain at 8 chin 9 breath 1 weighs 3 ;"
            + " belt x bears 9 ; belt y bears 10 ; man m at 5 reach 2 ; man n at 7 reach 2 ; holes 3 ; rises gaps * ( depth < 30 ) ;");
        // each alone: a and b with the same belt; c is not sunk, none bears d, e is too far
        Due.is("two", ball.worth(0), 2);
        Due.is("e too", ball.worth(1), 3);
        ball.cast(0, 0, 2);
        Due.is("what is enough is not on the wall", ball.worth(1), 0);
    }
}
