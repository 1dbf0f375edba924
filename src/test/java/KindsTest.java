/** Promises 25 to 29: KINDS, IMAGES, how much there is, THE TRACE. */
public final class KindsTest {
    private static final int BAD = -1, STATE = -2, NO = -1000000;

    public static void main(String[] args) {
        mark();
        markBelowNaught();
        markOfSeconds();
        trace();
        keep();
        back();
        backOfWhatMayBeUndone();
        imagesAreCopies();
        imagesKeepAllOfWhatIsDone();
        imagesKeepAllOfWhatMayBeUndone();
        count();
        Check.end();
    }

    private static EchoesFirst threePeople() {
        return Check.told("n 2;p 0 0 40 3 5;p 1 0 40 3;p 1 10 12 5 3 7;");
    }

    private static void mark() {
        EchoesFirst x = threePeople();
        int[] due = {5, 7, 5, 14, 5, 5};
        for (int kind = 0; kind < 6; kind++) {
            Check.due("mark(" + kind + ", 5)", x.mark(kind, 5), due[kind]);
        }
        Check.due("mark(1, 3)", x.mark(1, 3), 6);
        Check.due("mark(3, 3)", x.mark(3, 3), 12);
        Check.due("mark(1, 0)", x.mark(1, 0), 0);
        Check.due("mark(0, 7)", x.mark(0, 7), 7);
        Check.due("mark(-1, 0)", x.mark(-1, 0), NO);
        Check.due("mark(6, 0)", x.mark(6, 0), NO);
        Check.due("mark(0, -1)", x.mark(0, -1), NO);
        Check.due("mark(0, 8)", x.mark(0, 8), NO);
        Check.due("mark(1, 8)", x.mark(1, 8), NO);
        Check.due("mark(5, most)", x.mark(5, Integer.MAX_VALUE), NO);
    }

    private static void markBelowNaught() {
        EchoesFirst x = threePeople();
        Check.log(x, 1, 0, 1, 1);
        Check.log(x, 1, 0, 1, 1);
        Check.log(x, 9, 1, 1, 1);
        Check.log(x, 9, 1, 1, 0);
        Check.log(x, 9, 1, 3, 1);
        Check.due("mark(2, 1)", x.mark(2, 1), -2);
        Check.due("mark(4, 1)", x.mark(4, 1), -2);
        Check.due("mark(2, 3)", x.mark(2, 3), 2);
        Check.due("mark(2, 4)", x.mark(2, 4), 4);
        x.forget();
        Check.due("mark(2, 1) of no LOG", x.mark(2, 1), 1);
    }

    private static void markOfSeconds() {
        EchoesFirst x = threePeople();
        x.makes(0, 3);
        x.makes(1, 3);
        x.makes(0, 5);
        Check.pass(x, 10);
        x.makes(2, 3);
        Check.due("mark(4, 3)", x.mark(4, 3), 6);
        Check.due("mark(4, 5)", x.mark(4, 5), 6);
        Check.due("mark(4, 7)", x.mark(4, 7), 7);
        Check.due("mark(5, 3)", x.mark(5, 3), 13);
        Check.due("mark(5, 0)", x.mark(5, 0), 10);
        Check.due("mark(1, 3) is not of seconds", x.mark(1, 3), 6);
        Check.log(x, 2, 0, 3, 1);
        Check.due("mark(4, 3) less one", x.mark(4, 3), 5);
        x.undo();
        x.undo();
        Check.due("mark(4, 3) undone", x.mark(4, 3), 4);
        Check.due("mark(5, 3) undone", x.mark(5, 3), 12);
    }

    private static void trace() {
        EchoesFirst x = threePeople();
        Check.due("trace() at first", x.trace(), 0);
        long[] due = {1, 11, 101, 1011, 10101, 100001};
        long all = 0;
        for (int round = 0; round < 3; round++) {
            for (int kind = 0; kind < 6; kind++) {
                x.mark(kind, kind);
                all += due[kind];
                Check.due("trace() after mark(" + kind + ", ..)", x.trace(), all);
            }
        }
        x.mark(6, 0);
        x.mark(1, 8);
        x.mark(-1, 3);
        Check.due("trace() after wrong ones", x.trace(), all);
        x.keep(0);
        x.mark(0, 0);
        x.back(0);
        Check.due("trace() is in no IMAGE", x.trace(), all + 1);
        x.second();
        x.undo();
        Check.due("trace() is not undone", x.trace(), all + 1);
        x.valley();
        Check.due("trace() stays", x.trace(), all + 1);
        for (int k = 0; k < 400; k++) {
            x.mark(5, 7);
        }
        Check.due("trace() of many", x.trace(), all + 1 + 40000400L);
    }

    private static void keep() {
        EchoesFirst x = threePeople();
        Check.due("keep(-1)", x.keep(-1), BAD);
        Check.due("keep(2)", x.keep(2), BAD);
        Check.due("back(0) of none", x.back(0), STATE);
        Check.pass(x, 7);
        Check.due("keep(0)", x.keep(0), 7);
        Check.due("back(1) of none", x.back(1), STATE);
        x.second();
        Check.due("keep(1)", x.keep(1), 8);
        x.second();
        Check.due("back(0)", x.back(0), 7);
        Check.due("back(1)", x.back(1), 8);
        Check.due("keep(0) again", x.keep(0), 8);
        x.second();
        Check.due("back(0) as kept last", x.back(0), 8);
        Check.due("back(-1)", x.back(-1), BAD);
        Check.due("back(2)", x.back(2), BAD);
    }

    private static void back() {
        EchoesFirst x = threePeople();
        Check.pass(x, 2);
        x.makes(0, 3);
        x.moves(1, 0);
        Check.log(x, 1, 0, 3, 1);
        x.type(110);
        x.keep(1);
        Check.pass(x, 9);
        x.makes(2, 7);
        x.makes(0, 5);
        x.moves(1, 1);
        x.moves(0, 1);
        Check.log(x, 4, 0, 3, 1);
        x.type(32);
        x.mark(0, 0);
        Check.due("back(1)", x.back(1), 2);
        Check.due("NOW", x.count(3), 2);
        Check.due("things DONE", x.count(4), 1);
        Check.due("PLACE of 0", x.person(0, 0), 0);
        Check.due("PLACE of 1", x.person(1, 0), 0);
        Check.due("what may be UNDONE", x.count(5), 4);
        Check.due("THE LOG stays", x.count(2), 2);
        Check.due("THE TEXT stays", x.count(6), 2);
        Check.due("THE TRACE stays", x.trace(), 1);
        Check.due("DUE anew", x.now(0), 2);
        Check.due("back(1) once more", x.back(1), 2);
    }

    private static void backOfWhatMayBeUndone() {
        EchoesFirst x = threePeople();
        x.makes(0, 3);
        x.moves(0, 1);
        x.second();
        x.keep(0);
        Check.due("undo()", x.undo(), 2);
        Check.due("undo()", x.undo(), 1);
        Check.due("undo()", x.undo(), 0);
        x.moves(2, 0);
        Check.pass(x, 12);
        Check.due("back(0)", x.back(0), 1);
        Check.due("three may be undone", x.count(5), 3);
        Check.due("PLACE of 2 as kept", x.person(2, 0), 1);
        Check.due("undo() of the second", x.undo(), 2);
        Check.due("NOW", x.count(3), 0);
        Check.due("undo() of the move", x.undo(), 1);
        Check.due("PLACE of 0", x.person(0, 0), 0);
        Check.due("undo() of the deed", x.undo(), 0);
        Check.due("nothing DONE", x.count(4), 0);
        Check.due("back() itself can't be undone", x.undo(), STATE);
    }

    /** What goes on after keep() or back() doesn't change the IMAGE. */
    private static void imagesAreCopies() {
        EchoesFirst x = threePeople();
        x.makes(0, 3);
        x.keep(0);
        x.undo();
        x.makes(1, 3);
        x.moves(1, 0);
        Check.due("back(0)", x.back(0), 0);
        Check.due("the person of the first", x.done(0, 0), 0);
        Check.due("PLACE of 1", x.person(1, 0), 1);
        x.undo();
        x.makes(0, 5);
        x.moves(1, 0);
        Check.due("back(0) again", x.back(0), 0);
        Check.due("the SOUND of the first", x.done(0, 1), 3);
        Check.due("PLACE of 1 again", x.person(1, 0), 1);
        Check.due("one may be undone", x.count(5), 1);
        x.keep(1);
        x.second();
        x.keep(1);
        Check.due("IMAGE 0 is as it was", x.back(0), 0);
        Check.due("IMAGE 1 is as kept last", x.back(1), 1);
        Check.due("done(0, 3)", x.done(0, 3), 0);
    }

    private static void imagesKeepAllOfWhatIsDone() {
        EchoesFirst x = threePeople();
        Check.pass(x, 11);
        x.makes(0, 3);
        x.makes(2, 7);
        x.keep(0);
        Check.due("undo()", x.undo(), 9);
        Check.due("undo()", x.undo(), 8);
        x.undo();
        x.moves(2, 0);
        x.moves(1, 0);
        x.makes(1, 3);
        x.moves(0, 1);
        x.makes(0, 5);
        Check.due("back(0)", x.back(0), 11);
        int[][] due = {{0, 3, 11, 0}, {2, 7, 11, 1}};
        for (int i = 0; i < 2; i++) {
            for (int what = 0; what < 4; what++) {
                Check.due("done(" + i + ", " + what + ")", x.done(i, what), due[i][what]);
            }
        }
        Check.due("done(2, 0)", x.done(2, 0), BAD);
    }

    private static void imagesKeepAllOfWhatMayBeUndone() {
        EchoesFirst x = Check.told("n 4;p 0 0 40 0;p 1 0 40 0;p 2 0 40 0;");
        x.moves(0, 3);
        x.moves(2, 1);
        x.second();
        x.keep(1);
        x.undo();
        x.undo();
        x.undo();
        x.second();
        x.moves(1, 2);
        x.moves(1, 0);
        x.moves(1, 3);
        Check.due("back(1)", x.back(1), 1);
        Check.due("undo() of the second", x.undo(), 2);
        Check.due("NOW", x.count(3), 0);
        Check.due("undo() of the move of 2", x.undo(), 1);
        Check.due("PLACE of 2", x.person(2, 0), 2);
        Check.due("PLACE of 0 yet", x.person(0, 0), 3);
        Check.due("undo() of the move of 0", x.undo(), 0);
        Check.due("PLACE of 0", x.person(0, 0), 0);
        Check.due("PLACE of 1", x.person(1, 0), 1);
    }

    private static void count() {
        EchoesFirst x = threePeople();
        Check.pass(x, 10);
        x.makes(0, 3);
        x.makes(1, 3);
        x.moves(1, 0);
        x.undo();
        Check.log(x, 1, 1, 1, 1);
        Check.log(x, 1, 1, 1, 0);
        Check.log(x, 2, 1, 1, 0);
        Check.log(x, 2, 1, 1, 0);
        for (int k = 0; k < 6; k++) {
            x.type(200);
        }
        int[] due = {2, 3, 4, 10, 2, 9, 6};
        for (int what = 0; what < 7; what++) {
            Check.due("count(" + what + ")", x.count(what), due[what]);
        }
        Check.due("count(-1)", x.count(-1), BAD);
        Check.due("count(7)", x.count(7), BAD);
        Check.due("count(least)", x.count(Integer.MIN_VALUE), BAD);
    }
}
