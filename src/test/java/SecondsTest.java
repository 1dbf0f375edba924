/** Promises 14 to 19: seconds, things DONE, MOVED, UNDONE; DUE, PAST, LIES. */
public final class SecondsTest {
    private static final int BAD = -1, STATE = -2, FULL = -3, NONE = -9;

    public static void main(String[] args) {
        second();
        makes();
        makesWhenFull();
        moves();
        movesAsIfFromTheBeginning();
        undo();
        undoOfTheLatestTen();
        done();
        due();
        dueByLies();
        past();
        lies();
        Check.end();
    }

    private static void second() {
        EchoesFirst x = new EchoesFirst();
        for (int s = 1; s <= 60; s++) {
            Check.due("second()", x.second(), s);
            Check.due("NOW", x.count(3), s);
        }
        Check.due("second() at 60", x.second(), STATE);
        Check.due("NOW is 60 yet", x.count(3), 60);
        Check.due("the refused one can't be undone", x.undo(), 9);
        Check.due("NOW is 59", x.count(3), 59);
        Check.due("second() again", x.second(), 60);
    }

    private static void makes() {
        EchoesFirst x = Check.told("p 0 1 2 3 5;p 1 0 40 0;");
        Check.due("makes(-1, 3)", x.makes(-1, 3), BAD);
        Check.due("makes(2, 3)", x.makes(2, 3), BAD);
        Check.due("makes(0, -1)", x.makes(0, -1), BAD);
        Check.due("makes(0, 8)", x.makes(0, 8), BAD);
        Check.due("makes ahead of FROM", x.makes(0, 3), STATE);
        Check.due("makes what he can't", x.makes(1, 3), STATE);
        x.second();
        Check.due("makes what he can't, being there", x.makes(0, 4), STATE);
        Check.due("nothing is DONE", x.count(4) + x.now(2), 0);
        Check.due("makes in FROM", x.makes(0, 3), 1);
        x.second();
        Check.due("makes in TO", x.makes(0, 5), 2);
        Check.due("makes the same again", x.makes(0, 5), 3);
        x.second();
        Check.due("makes behind TO", x.makes(0, 3), STATE);
        Check.due("another makes", x.makes(1, 0), 4);
        Check.due("count(4)", x.count(4), 4);
    }

    private static void makesWhenFull() {
        EchoesFirst x = Check.told("p 0 0 40 0;p 1 1 40 0;");
        for (int k = 1; k <= 10; k++) {
            Check.due("makes(0, 0)", x.makes(0, 0), k);
        }
        String before = Check.face(x);
        Check.due("an eleventh", x.makes(0, 0), FULL);
        Check.due("an eleventh that can't be", x.makes(0, 1), STATE);
        Check.due("an eleventh of one not there", x.makes(1, 0), STATE);
        Check.due("an eleventh of none", x.makes(2, 0), BAD);
        Check.same("what is refused changes nothing", Check.face(x), before);
        Check.due("undo() of the tenth", x.undo(), 9);
        Check.due("a tenth again", x.makes(0, 0), 10);
    }

    private static void moves() {
        EchoesFirst x = Check.told("n 3;p 0 0 40 0;p 2 0 4 1;");
        Check.due("moves(-1, 0)", x.moves(-1, 0), BAD);
        Check.due("moves(2, 0)", x.moves(2, 0), BAD);
        Check.due("moves(0, -1)", x.moves(0, -1), BAD);
        Check.due("moves(0, 3)", x.moves(0, 3), BAD);
        Check.due("moves to where he is", x.moves(0, 0), STATE);
        Check.due("nothing to be undone", x.count(5), 0);
        Check.due("moves(0, 2)", x.moves(0, 2), 0);
        Check.due("moves(0, 1)", x.moves(0, 1), 2);
        Check.due("moves to where he is now", x.moves(0, 1), STATE);
        Check.due("moves(1, 0)", x.moves(1, 0), 2);
        Check.due("PLACE of 0", x.person(0, 0), 1);
        Check.due("PLACE of 1", x.person(1, 0), 0);
        Check.due("three may be undone", x.count(5), 3);
        Check.pass(x, 50);
        Check.due("moves(1, 2), though it is late", x.moves(1, 2), 0);
    }

    private static void movesAsIfFromTheBeginning() {
        EchoesFirst x = Check.told("n 3;f 0 1 4;f 0 2 9;f 1 2 2;p 0 0 40 0;");
        Check.log(x, 5, 1, 0, 1);
        Check.due("first(0) from PLACE 0", x.first(0), 9);
        x.makes(0, 0);
        Check.pass(x, 7);
        Check.due("past from PLACE 0", x.now(1), 0);
        x.moves(0, 2);
        Check.due("first(0) from PLACE 2", x.first(0), 7);
        Check.due("NOW is not past", x.now(1), 0);
        x.second();
        Check.due("it is past from PLACE 2", x.now(1), 1);
        x.moves(0, 0);
        Check.due("it is not from PLACE 0", x.now(1), 0);
        Check.due("DONE where it was made", x.done(0, 3), 0);
        x.moves(0, 1);
        Check.due("DONE where it was made, still", x.done(0, 3), 0);
        Check.due("begin(0, 0, 2, 3) from PLACE 1", x.begin(0, 0, 2, 3), 5);
    }

    private static void undo() {
        EchoesFirst x = Check.told("n 3;p 0 0 40 0 1;p 1 0 40 1;");
        Check.due("undo() of none", x.undo(), STATE);
        x.second();
        x.makes(0, 1);
        x.moves(0, 2);
        x.makes(0, 0);
        x.moves(1, 0);
        x.moves(0, 1);
        Check.due("six may be undone", x.count(5), 6);
        Check.due("undo() of a move", x.undo(), 5);
        Check.due("PLACE of 0", x.person(0, 0), 2);
        Check.due("PLACE of 1 stays", x.person(1, 0), 0);
        Check.due("undo() of another's move", x.undo(), 4);
        Check.due("PLACE of 1", x.person(1, 0), 1);
        Check.due("undo() of a deed", x.undo(), 3);
        Check.due("one is DONE yet", x.count(4), 1);
        Check.due("the SOUND of it", x.done(0, 1), 1);
        Check.due("undo() of the first move", x.undo(), 2);
        Check.due("PLACE of 0 as at first", x.person(0, 0), 0);
        Check.due("undo() of the first deed", x.undo(), 1);
        Check.due("nothing is DONE", x.count(4), 0);
        Check.due("NOW stays", x.count(3), 1);
        Check.due("undo() of the second", x.undo(), 0);
        Check.due("NOW is 0", x.count(3), 0);
        Check.due("undo() of none more", x.undo(), STATE);
        Check.log(x, 3, 0, 0, 1);
        x.mark(0, 0);
        x.type(65);
        x.keep(0);
        Check.due("nothing else can be undone", x.undo(), STATE);
    }

    private static void undoOfTheLatestTen() {
        EchoesFirst x = Check.told("n 3;p 0 0 40 0;p 1 0 40 0;");
        x.moves(0, 2);
        x.makes(1, 0);
        Check.pass(x, 4);
        x.moves(1, 2);
        x.makes(0, 0);
        Check.pass(x, 2);
        Check.due("ten may be undone", x.count(5), 10);
        Check.due("one more", x.second(), 7);
        Check.due("ten yet", x.count(5), 10);
        x.moves(0, 1);
        Check.due("ten, still", x.count(5), 10);
        Check.due("undo() of the move", x.undo(), 9);
        Check.due("PLACE of 0", x.person(0, 0), 2);
        for (int k = 8; k >= 0; k--) {
            Check.due("undo()", x.undo(), k);
        }
        Check.due("undo() of a lost one", x.undo(), STATE);
        Check.due("NOW", x.count(3), 0);
        Check.due("the lost move stands", x.person(0, 0), 2);
        Check.due("the later move does not", x.person(1, 0), 1);
        Check.due("the lost deed stands", x.count(4), 1);
    }

    private static void done() {
        EchoesFirst x = Check.told("n 3;p 0 0 40 0 1;p 2 2 40 7;");
        Check.due("done(0, 0) of none", x.done(0, 0), BAD);
        x.makes(0, 1);
        Check.pass(x, 3);
        x.makes(1, 7);
        x.moves(1, 1);
        x.makes(1, 7);
        int[][] due = {{0, 1, 0, 0}, {1, 7, 3, 2}, {1, 7, 3, 1}};
        for (int i = 0; i < 3; i++) {
            for (int what = 0; what < 4; what++) {
                Check.due("done(" + i + ", " + what + ")", x.done(i, what), due[i][what]);
            }
            Check.due("done(" + i + ", -1)", x.done(i, -1), BAD);
            Check.due("done(" + i + ", 4)", x.done(i, 4), BAD);
        }
        Check.due("done(3, 0)", x.done(3, 0), BAD);
        Check.due("done(4, 0)", x.done(4, 0), BAD);
        Check.due("done(most, 0)", x.done(Integer.MAX_VALUE, 0), BAD);
        Check.due("done(least, 0)", x.done(Integer.MIN_VALUE, 0), BAD);
        Check.due("done(-1, 0)", x.done(-1, 0), BAD);
        x.undo();
        Check.due("done(2, 0) when undone", x.done(2, 0), BAD);
    }

    private static void due() {
        EchoesFirst x = Check.told("n 2;f 0 1 4;p 0 0 40 0 1;p 1 0 40 0;");
        Check.due("now(-1)", x.now(-1), BAD);
        Check.due("now(3)", x.now(3), BAD);
        Check.due("DUE of none", x.now(0), 0);
        Check.log(x, 5, 0, 0, 1);
        Check.log(x, 2, 1, 0, 1);
        Check.log(x, 5, 0, 0, 0);
        Check.log(x, 2, 1, 1, 1);
        Check.due("DUE of three", x.now(0), 11);
        Check.pass(x, 6);
        x.makes(0, 1);
        Check.due("DUE without the last", x.now(0), 3);
        x.makes(1, 0);
        Check.due("his is heard in other seconds", x.now(0), 3);
        x.makes(0, 0);
        Check.due("DUE without all", x.now(0), 0);
        x.undo();
        Check.due("DUE when undone", x.now(0), 3);
        x.moves(0, 1);
        Check.due("what is DONE counts from where it was made", x.now(0), 3);
        x.second();
        x.makes(0, 0);
        Check.due("made from elsewhere in another second", x.now(0), 3);
        Check.pass(x, 2);
        x.makes(0, 0);
        Check.due("the first one is made by one of 9", x.now(0), 2);
    }

    /** A thing DONE makes what is heard by it, though it is a LIE, too. */
    private static void dueByLies() {
        EchoesFirst x = Check.told("n 2;p 0 0 40 0;");
        Check.log(x, 0, 0, 0, 1);
        Check.log(x, 0, 0, 0, 0);
        Check.due("nobody can, by deeds that can be", x.nobody(), 0);
        Check.pass(x, 1);
        Check.due("DUE", x.now(0), 1);
        Check.due("PAST", x.now(1), 1);
        x.makes(0, 0);
        Check.due("it is a LIE", x.now(2), 1);
        Check.due("but it was made", x.now(0), 0);
        Check.due("and so is not PAST", x.now(1), 0);
    }

    private static void past() {
        EchoesFirst x = Check.told("n 2;f 0 1 4;p 0 0 40 0 1;p 1 0 8 0;");
        Check.log(x, 5, 0, 0, 1);
        Check.log(x, 20, 0, 1, 1);
        Check.log(x, 20, 0, 2, 1);
        Check.log(x, 4, 1, 0, 1);
        Check.due("PAST is what nobody can ever", x.now(1), 4);
        Check.pass(x, 5);
        Check.due("PAST in 5", x.now(1), 4);
        Check.pass(x, 1);
        Check.due("NOW is in time", x.now(1), 4);
        Check.pass(x, 1);
        Check.due("past 6", x.now(1), 5);
        Check.pass(x, 1);
        Check.due("the last is in time in 8", x.now(1), 5);
        x.makes(0, 0);
        Check.due("made in 8", x.now(1) * 100 + x.now(0), 507);
        x.second();
        Check.due("what is made is not PAST", x.now(1), 5);
        x.undo();
        x.undo();
        x.second();
        Check.due("what is not made is", x.now(1), 13);
        Check.log(x, 17, 1, 1, 0);
        Check.due("a STILL one makes it PAST", x.now(1), 15);
        Check.due("a STILL one is not PAST itself", x.now(0), 15);
        Check.pass(x, 51);
        Check.due("in 60 all is PAST", x.now(1), 15);
        x.forget();
        Check.due("PAST of none", x.now(1), 0);
        Check.due("DUE of none", x.now(0), 0);
    }

    private static void lies() {
        EchoesFirst x = Check.told("n 2;f 0 1 4;p 0 0 40 0 1;p 1 0 40 0;");
        Check.pass(x, 5);
        x.makes(0, 0);
        x.makes(0, 1);
        x.makes(1, 0);
        x.makes(0, 0);
        Check.due("no LIES without STILL ones", x.now(2), 0);
        Check.log(x, 4, 0, 0, 1);
        Check.due("what is HEARD is no LIE", x.now(2), 0);
        Check.log(x, 4, 0, 0, 0);
        Check.due("two LIES", x.now(2), 9);
        Check.log(x, 1, 0, 0, 0);
        Check.due("three LIES", x.now(2), 13);
        Check.log(x, 1, 1, 1, 0);
        Check.due("four LIES", x.now(2), 15);
        x.moves(0, 1);
        Check.due("where they were made", x.now(2), 15);
        x.makes(0, 0);
        Check.due("a LIE from PLACE 1", x.now(2), 31);
        x.makes(0, 1);
        Check.due("no LIE from PLACE 1", x.now(2), 31);
        x.undo();
        x.undo();
        Check.due("LIES undone", x.now(2), 15);
        x.forget();
        Check.due("LIES forgotten", x.now(2), 0);
        Check.due("NONE is no answer of now", x.now(2) == NONE ? 1 : 0, 0);
    }
}
