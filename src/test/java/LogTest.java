/** Promises 7 to 13: THE LOG, whose each can be, the fewest deeds. */
public final class LogTest {
    private static final int BAD = -1, FULL = -3, NONE = -9, NOT_SO_MANY = -5;
    private static final String SIX = "p0 0 40 0;p1 0 40 0;p2 0 40 0;p3 0 40 0;p0 0 40 0;p1 0 40 0;";

    public static void main(String[] args) {
        heard();
        forget();
        who();
        whoAtTheEdges();
        nobody();
        deedsOfNothing();
        deedsThatCanBe();
        fewestDeeds();
        must();
        first();
        firstByTheFirstNumber();
        odds();
        oddsOfSharedDeeds();
        manySets();
        deedOfNumberNaught();
        theLeastNumberIsNotAlwaysOfASet();
        whateverIsDone();
        Check.end();
    }

    private static void heard() {
        EchoesFirst x = Check.told("n 2;");
        Check.due("heard(-1, ..)", x.heard(-1, 0, 0, 1), BAD);
        Check.due("heard(41, ..)", x.heard(41, 0, 0, 1), BAD);
        Check.due("heard at PLACE -1", x.heard(0, -1, 0, 1), BAD);
        Check.due("heard at PLACE 2", x.heard(0, 2, 0, 1), BAD);
        Check.due("heard SOUND -1", x.heard(0, 0, -1, 1), BAD);
        Check.due("heard SOUND 8", x.heard(0, 0, 8, 1), BAD);
        Check.due("heard with is -1", x.heard(0, 0, 0, -1), BAD);
        Check.due("heard with is 2", x.heard(0, 0, 0, 2), BAD);
        Check.due("THE LOG is empty yet", x.count(2), 0);
        Check.due("heard(0, 0, 0, 1)", x.heard(0, 0, 0, 1), 1);
        Check.due("heard(40, 1, 7, 0)", x.heard(40, 1, 7, 0), 2);
        for (int k = 3; k <= 8; k++) {
            Check.due("the same again", x.heard(0, 0, 0, 1), k);
        }
        Check.due("a ninth", x.heard(0, 0, 0, 1), FULL);
        Check.due("a ninth STILL", x.heard(0, 0, 0, 0), FULL);
        Check.due("a wrong ninth", x.heard(41, 0, 0, 0), BAD);
        Check.due("THE LOG has eight", x.count(2), 8);
        Check.due("the seventh", x.who(7), 0);
    }

    private static void forget() {
        EchoesFirst x = Check.told("p 0 0 40 0;");
        Check.due("forget() of none", x.forget(), 0);
        Check.log(x, 4, 0, 0, 1);
        Check.log(x, 5, 0, 0, 0);
        Check.pass(x, 2);
        x.makes(0, 0);
        x.keep(0);
        Check.due("forget()", x.forget(), 2);
        Check.due("THE LOG is empty", x.count(2), 0);
        Check.due("who(0) of none", x.who(0), BAD);
        Check.due("NOW stays", x.count(3), 2);
        Check.due("DONE stays", x.count(4), 1);
        Check.due("forget() again", x.forget(), 0);
        Check.due("heard after forget()", x.heard(5, 0, 0, 1), 1);
        Check.due("the STILL one is forgotten", x.who(0), 1);
        Check.due("IMAGES don't keep THE LOG", x.back(0) * 10 + x.count(2), 21);
    }

    private static void who() {
        EchoesFirst x = Check.told("n 3;f 0 1 4;f 0 2 9;f 1 2 2;"
            + "p 0 0 40 1 2;p 1 5 9 1;p 2 0 20 2 7;p 0 8 30 2;");
        Check.log(x, 5, 1, 1, 1);
        Check.due("who(0)", x.who(0), 3);
        Check.log(x, 0, 2, 1, 1);
        Check.due("who(1), one not being there", x.who(1), 1);
        Check.log(x, 1, 2, 2, 1);
        Check.due("who(2)", x.who(2), 13);
        Check.log(x, 8, 0, 1, 0);
        Check.due("who(0) with one STILL", x.who(0), 2);
        Check.due("who(1) with one STILL", x.who(1), 0);
        Check.due("who(2) with another SOUND STILL", x.who(2), 13);
        Check.due("who(3), STILL itself", x.who(3), 0);
        Check.due("who(4)", x.who(4), BAD);
        Check.due("who(-1)", x.who(-1), BAD);
        Check.pass(x, 60);
        Check.due("who(0) whatever NOW is", x.who(0), 2);
        x.moves(1, 2);
        Check.due("who(0) after a move", x.who(0), 2);
        x.moves(1, 0);
        Check.due("who(0) after a move to where it is STILL", x.who(0), 0);
        x.undo();
        x.undo();
        Check.due("who(0) when the moves are undone", x.who(0), 2);
    }

    private static void whoAtTheEdges() {
        EchoesFirst x = Check.told("n 2;f 0 1 2;p 0 5 9 3;");
        int[] seconds = {2, 3, 7, 8};
        int[] due = {0, 1, 1, 0};
        for (int k = 0; k < 4; k++) {
            Check.log(x, seconds[k], 1, 3, 1);
            Check.due("who heard in " + seconds[k], x.who(k), due[k]);
        }
        EchoesFirst y = Check.told("n 2;f 0 1 0;p 0 0 40 3;p 1 40 40 3 4;");
        Check.log(y, 40, 1, 3, 1);
        Check.due("FAR 0, the last second", y.who(0), 1);
        Check.log(y, 39, 1, 3, 1);
        Check.due("to itself 1, the last second", y.who(1), 3);
        Check.log(y, 39, 1, 4, 1);
        Check.due("who CAN make it alone", y.who(2), 2);
        Check.log(y, 40, 0, 4, 0);
        Check.due("STILL elsewhere", y.who(2), 0);
        Check.due("STILL of another SOUND", y.who(1), 3);
    }

    private static void nobody() {
        EchoesFirst x = Check.told("p 1 0 10 0;");
        Check.due("nobody() of none", x.nobody(), NONE);
        Check.log(x, 20, 0, 0, 0);
        Check.due("nobody() of a STILL one", x.nobody(), NONE);
        Check.log(x, 3, 0, 0, 1);
        Check.due("nobody() of one of somebody", x.nobody(), NONE);
        Check.log(x, 20, 0, 0, 1);
        Check.log(x, 3, 0, 1, 1);
        Check.due("nobody() of two", x.nobody(), 2);
        Check.log(x, 5, 1, 0, 0);
        Check.due("a STILL one makes it the first", x.nobody(), 1);
        x.forget();
        Check.due("nobody() of none again", x.nobody(), NONE);
        Check.log(x, 3, 0, 0, 1);
        Check.due("nobody() of one anew", x.nobody(), NONE);
    }

    private static void deedsOfNothing() {
        EchoesFirst x = Check.told(SIX);
        Check.due("deeds(-1)", x.deeds(-1), BAD);
        Check.due("deeds(3)", x.deeds(3), BAD);
        Check.log(x, 4, 0, 0, 0);
        Check.due("deeds(0) of STILL ones", x.deeds(0), 0);
        Check.due("deeds(1) of STILL ones", x.deeds(1), 1);
        Check.due("deeds(2) of STILL ones", x.deeds(2), 0);
        Check.due("first(0) of STILL ones", x.first(0), NOT_SO_MANY);
        Check.due("odds of a STILL one", x.odds(0, 0, 0), BAD);
        Check.log(x, 4, 0, 1, 1);
        for (int what = 0; what < 3; what++) {
            Check.due("deeds(" + what + ") of what nobody can", x.deeds(what), NONE);
        }
        Check.due("deeds(3) of what nobody can", x.deeds(3), BAD);
        Check.due("first(0) of what nobody can", x.first(0), NONE);
        Check.due("first(7) of what nobody can", x.first(7), NONE);
        Check.due("first(-1) of what nobody can", x.first(-1), BAD);
        Check.due("odds of what nobody can", x.odds(0, 1, 0), NONE);
        Check.due("odds of what nobody can, lower", x.odds(0, 1, 1), NONE);
        Check.due("odds(6, ..) of what nobody can", x.odds(6, 1, 0), BAD);
    }

    private static void deedsThatCanBe() {
        EchoesFirst x = Check.told("n 2;f 0 1 5;p 0 0 40 0;p 1 0 40 0;");
        Check.log(x, 9, 0, 0, 1);
        Check.due("two ways", x.deeds(1), 2);
        Check.due("first(0) of two", x.first(0), 10);
        Check.log(x, 5, 1, 0, 0);
        Check.due("one is against the STILL one", x.deeds(1), 1);
        Check.due("first(0) is the other's", x.first(0), 10014);
        Check.due("he must", x.deeds(2), 2);
        Check.log(x, 13, 1, 0, 0);
        Check.due("both are against STILL ones", x.deeds(0), NONE);
    }

    private static void fewestDeeds() {
        EchoesFirst x = Check.told(SIX);
        Check.log(x, 9, 0, 0, 1);
        Check.due("deeds(0) of one", x.deeds(0), 1);
        Check.due("deeds(1) of one", x.deeds(1), 6);
        Check.log(x, 9, 1, 0, 1);
        Check.due("one deed makes both", x.deeds(0), 1);
        Check.due("by two people", x.deeds(1), 2);
        Check.log(x, 9, 2, 0, 1);
        Check.log(x, 9, 3, 0, 1);
        Check.due("deeds(0) of four", x.deeds(0), 2);
        Check.due("deeds(1) of four", x.deeds(1), 23);
        Check.due("deeds(2) of four", x.deeds(2), 0);
        Check.log(x, 9, 3, 0, 1);
        Check.due("the same again changes no number", x.deeds(0), 2);
        Check.due("the same again changes no way", x.deeds(1), 23);
    }

    private static void must() {
        EchoesFirst x = Check.told("n 2;f 0 1 5;p 0 0 40 0 1;p 1 0 20 0 2;p 1 0 40 0 3;");
        Check.log(x, 9, 0, 1, 1);
        Check.due("MUST of one alone", x.deeds(2), 1);
        Check.log(x, 9, 0, 0, 1);
        Check.due("MUST of him and any", x.deeds(2), 1);
        Check.due("three ways", x.deeds(1), 3);
        Check.log(x, 3, 1, 2, 1);
        Check.due("MUST of two", x.deeds(2), 3);
        Check.log(x, 30, 1, 3, 1);
        Check.due("MUST of three", x.deeds(2), 7);
        Check.due("DEEDS of four", x.deeds(0), 4);
        EchoesFirst y = Check.told("n 3;f 0 1 2;p 0 0 40 0;p 1 0 40 0;p 0 10 10 0;");
        Check.log(y, 9, 0, 0, 1);
        Check.log(y, 8, 1, 0, 1);
        Check.due("two can make both at once", y.deeds(1), 2);
        Check.due("neither must", y.deeds(2), 0);
        Check.log(y, 20, 0, 0, 1);
        Check.log(y, 19, 1, 0, 1);
        Check.due("one way for the other two", y.deeds(1), 2);
        Check.due("so he must", y.deeds(2), 1);
        y.forget();
        Check.log(y, 20, 0, 0, 1);
        Check.log(y, 19, 0, 0, 1);
        Check.log(y, 18, 1, 0, 1);
        Check.due("the fewest need him, more would not", y.deeds(0) * 100 + y.deeds(1) * 10 + y.deeds(2), 221);
    }

    private static void first() {
        EchoesFirst x = Check.told("n 2;f0 0 0;f 1 1 9;f 0 1 5;p 0 3 30 1 2 3 4 5 6 7;p 1 0 9 7;p 0 3 3 0;");
        Check.log(x, 0, 1, 7, 1);
        Check.log(x, 3, 0, 1, 1);
        Check.log(x, 3, 0, 0, 1);
        Check.due("first(0)", x.first(0), 103);
        Check.due("first(1)", x.first(1), 705);
        Check.due("first(2)", x.first(2), 20003);
        Check.due("first(3)", x.first(3), NOT_SO_MANY);
        Check.due("first(most)", x.first(Integer.MAX_VALUE), NOT_SO_MANY);
        Check.due("first(-1)", x.first(-1), BAD);
        Check.due("first(least)", x.first(Integer.MIN_VALUE), BAD);
        Check.log(x, 0, 0, 7, 0);
        Check.due("who still can", x.who(0), 3);
        Check.log(x, 5, 0, 7, 0);
        Check.due("first(1) when 0 can't", x.first(1), 10709);
        Check.due("first(2) of the same", x.first(2), 20003);
    }

    /** The first set has the least first number, whatever its other numbers are. */
    private static void firstByTheFirstNumber() {
        EchoesFirst x = Check.told(SIX);
        int[][] logged = {{9, 0}, {9, 1}, {9, 2}, {9, 3}};
        for (int[] one : logged) {
            Check.log(x, one[0], one[1], 0, 1);
        }
        Check.due("first(0) of 23 sets", x.first(0), 10);
        Check.due("first(1) of 23 sets", x.first(1), 12);
        Check.due("first(2) of 23 sets", x.first(2), NOT_SO_MANY);
        EchoesFirst y = Check.told("n 3;f 0 1 4;f 0 2 9;f 1 2 2;p 0 0 40 1 2;p 1 5 9 1;p 2 0 20 2 7;p 0 8 30 2;");
        Check.log(y, 5, 1, 1, 1);
        Check.log(y, 0, 2, 1, 1);
        Check.log(y, 1, 2, 2, 1);
        Check.due("DEEDS", y.deeds(0), 2);
        Check.due("WAYS", y.deeds(1), 3);
        Check.due("first(0) of 3 sets", y.first(0), 109);
        Check.due("first(1) of 3 sets", y.first(1), 210);
    }

    private static void odds() {
        EchoesFirst x = Check.told("n 3;f 0 1 4;f 0 2 9;f 1 2 2;p 0 0 40 1 2;p 1 5 9 1;p 2 0 20 2 7;p 0 8 30 2;");
        Check.log(x, 5, 1, 1, 1);
        Check.due("upper of 1/2", x.odds(0, 0, 0), 1);
        Check.due("lower of 1/2", x.odds(0, 0, 1), 2);
        Check.due("upper of another's 1/2", x.odds(1, 0, 0), 1);
        Check.due("upper of 0", x.odds(2, 0, 0), 0);
        Check.due("lower of 0", x.odds(2, 0, 1), 1);
        Check.log(x, 0, 2, 1, 1);
        Check.due("upper of 1", x.odds(0, 0, 0), 1);
        Check.due("lower of 1", x.odds(0, 0, 1), 1);
        Check.due("upper of one who could, but not so", x.odds(1, 0, 0), 0);
        Check.log(x, 30, 0, 0, 0);
        Check.due("odds of a STILL one", x.odds(0, 2, 0), BAD);
        Check.due("odds(4, ..)", x.odds(4, 0, 0), BAD);
        Check.due("odds(-1, ..)", x.odds(-1, 0, 0), BAD);
        Check.due("odds of the third", x.odds(0, 3, 0), BAD);
        Check.due("odds of the one at -1", x.odds(0, -1, 0), BAD);
        Check.due("odds with what -1", x.odds(0, 0, -1), BAD);
        Check.due("odds with what 2", x.odds(0, 0, 2), BAD);
    }

    private static void oddsOfSharedDeeds() {
        EchoesFirst x = Check.told(SIX);
        for (int place = 0; place < 4; place++) {
            Check.log(x, 9, place, 0, 1);
        }
        int[] due = {2, 6, 6, 6, 2, 6};
        for (int p = 0; p < 6; p++) {
            Check.due("upper of " + p, x.odds(p, 0, 0), due[p]);
            Check.due("lower of " + p, x.odds(p, 0, 1), 23);
        }
        EchoesFirst y = Check.told("n 2;p0 0 40 0 1;p0 0 40 0 1;p0 0 40 0;p0 0 40 0;");
        Check.log(y, 5, 0, 0, 1);
        Check.log(y, 5, 0, 1, 1);
        Check.due("2 of 8 in least terms, upper", y.odds(0, 0, 0), 1);
        Check.due("2 of 8 in least terms, lower", y.odds(0, 0, 1), 4);
        Check.due("4 of 8 in least terms, upper", y.odds(1, 1, 0), 1);
        Check.due("4 of 8 in least terms, lower", y.odds(1, 1, 1), 2);
    }

    /** Person 0, SOUND 0, second 0. */
    private static void deedOfNumberNaught() {
        EchoesFirst x = Check.told("n 2;f 0 0 0;p 0 0 0 0;p 0 0 2 0 1;");
        Check.log(x, 0, 0, 0, 1);
        Check.due("who in second 0", x.who(0), 3);
        Check.due("somebody in second 0", x.nobody(), NONE);
        Check.due("two ways in second 0", x.deeds(1), 2);
        Check.due("first(0) is 0", x.first(0), 0);
        Check.due("upper of 1/2 by number 0", x.odds(0, 0, 0), 1);
        Check.due("lower of 1/2 by number 0", x.odds(0, 0, 1), 2);
        Check.due("nobody must", x.deeds(2), 0);
        x.moves(1, 1);
        Check.due("number 0 alone", x.deeds(1), 1);
        Check.due("person 0 must", x.deeds(2), 1);
        Check.due("odds of 1", x.odds(0, 0, 0) * 10 + x.odds(0, 0, 1), 11);
    }

    private static void theLeastNumberIsNotAlwaysOfASet() {
        EchoesFirst x = Check.told("n 3;f 0 1 4;p 0 0 40 0;p 1 0 40 0;p 0 0 40 0;");
        Check.log(x, 9, 0, 0, 1);
        Check.log(x, 12, 1, 0, 1);
        Check.due("one deed of 1 makes both", x.deeds(0) * 10 + x.deeds(1), 11);
        Check.due("first(0) is his", x.first(0), 10013);
        Check.due("no first(1)", x.first(1), NOT_SO_MANY);
        Check.due("he must", x.deeds(2), 2);
        Check.due("who could make the first", x.who(0), 7);
        Check.due("odds of one who could", x.odds(0, 0, 0) * 10 + x.odds(0, 0, 1), 1);
        Check.log(x, 20, 0, 0, 1);
        Check.due("first(0) of two", x.first(0), 21);
        Check.due("first(1) of two", x.first(1), 10013);
    }

    /** NOW and what is DONE are nothing to whose each can be. */
    private static void whateverIsDone() {
        EchoesFirst x = Check.told("p 0 0 40 0;p 1 0 40 0;");
        Check.log(x, 9, 0, 0, 1);
        Check.pass(x, 10);
        x.makes(0, 0);
        Check.pass(x, 40);
        Check.due("who(0)", x.who(0), 3);
        Check.due("nobody()", x.nobody(), NONE);
        Check.due("deeds(0)", x.deeds(0), 1);
        Check.due("deeds(1)", x.deeds(1), 2);
        Check.due("deeds(2)", x.deeds(2), 0);
        Check.due("first(0)", x.first(0), 10);
        Check.due("odds(0, 0, 1)", x.odds(0, 0, 1), 2);
        Check.due("it is not DUE, though", x.now(0), 0);
    }

    private static void manySets() {
        EchoesFirst x = Check.told(SIX);
        for (int s = 0; s < 8; s++) {
            Check.log(x, 20 + s, 0, 0, 1);
        }
        Check.due("eight deeds", x.deeds(0), 8);
        Check.due("six people for each of them", x.deeds(1), 1679616);
        Check.due("nobody must", x.deeds(2), 0);
        for (int i = 0; i < 8; i++) {
            Check.due("first(" + i + ") of many", x.first(i), 21 + i);
        }
        Check.due("first(8) of many", x.first(8), NOT_SO_MANY);
        Check.due("lower of one in six", x.odds(5, 7, 1), 6);
    }
}
