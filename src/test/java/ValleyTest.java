/** Promises 1 to 6: a new object, THE TEXT, what it tells. */
public final class ValleyTest {
    private static final int BAD = -1, STATE = -2, FULL = -3, NONE = -9;

    public static void main(String[] args) {
        newObject();
        objectsAreApart();
        type();
        clear();
        textsWithoutFault();
        placesOfFault();
        faultsOfNumbers();
        faultsOfPeople();
        endsTooEarly();
        longTexts();
        bytesOfEarlierTexts();
        textGoesOnAfterFault();
        faultChangesNothing();
        readAnew();
        far();
        person();
        Check.end();
    }

    private static void newObject() {
        EchoesFirst x = new EchoesFirst();
        Check.due("PLACES", x.count(0), 4);
        for (int what = 1; what < 7; what++) {
            Check.due("count(" + what + ") at first", x.count(what), 0);
        }
        for (int a = 0; a < 4; a++) {
            for (int b = 0; b < 4; b++) {
                Check.due("far at first", x.far(a, b), a == b ? 1 : 3);
            }
        }
        Check.due("trace() at first", x.trace(), 0);
        Check.due("far(0, 4) at first", x.far(0, 4), BAD);
        Check.due("person(0, 0) at first", x.person(0, 0), BAD);
        Check.due("undo() at first", x.undo(), STATE);
        Check.due("back(0) at first", x.back(0), STATE);
        Check.due("back(1) at first", x.back(1), STATE);
        Check.due("done(0, 0) at first", x.done(0, 0), BAD);
        Check.due("who(0) at first", x.who(0), BAD);
        Check.due("nobody() at first", x.nobody(), NONE);
        Check.due("the constants", EchoesFirst.BAD * 1000 + EchoesFirst.STATE * 100 + EchoesFirst.FULL * 10
            + EchoesFirst.NONE, -1239);
        Check.due("NO", EchoesFirst.NO, -1000000);
    }

    private static void objectsAreApart() {
        EchoesFirst x = Check.told("n 2;f 0 1 9;p 0 0 40 3;");
        x.second();
        x.makes(0, 3);
        x.heard(1, 1, 1, 1);
        x.mark(1, 1);
        x.keep(0);
        x.type(65);
        Check.same("a second object", Check.face(new EchoesFirst()), Check.face(new EchoesFirst()));
        Check.due("PLACES of a second object", new EchoesFirst().count(0), 4);
        Check.due("trace of a second object", new EchoesFirst().trace(), 0);
        Check.due("THE TEXT of a second object", new EchoesFirst().count(6), 0);
        Check.due("images of a second object", new EchoesFirst().back(0), STATE);
    }

    private static void type() {
        EchoesFirst x = new EchoesFirst();
        Check.due("type(-1)", x.type(-1), BAD);
        Check.due("type(256)", x.type(256), BAD);
        Check.due("type(least)", x.type(Integer.MIN_VALUE), BAD);
        Check.due("type(most)", x.type(Integer.MAX_VALUE), BAD);
        Check.due("nothing came to THE TEXT", x.count(6), 0);
        Check.due("type(0)", x.type(0), 1);
        Check.due("type(255)", x.type(255), 2);
        for (int k = 3; k <= 200; k++) {
            Check.due("type(32)", x.type(32), k);
        }
        Check.due("type(32) of a full text", x.type(32), FULL);
        Check.due("type(256) of a full text", x.type(256), BAD);
        Check.due("type(-1) of a full text", x.type(-1), BAD);
        Check.due("bytes of a full text", x.count(6), 200);
        Check.due("clear() of a full text", x.clear(), 200);
        Check.due("type(32) after clear()", x.type(32), 1);
    }

    private static void clear() {
        EchoesFirst x = new EchoesFirst();
        Check.due("clear() of none", x.clear(), 0);
        Check.type(x, "n 5");
        Check.due("clear() of three", x.clear(), 3);
        Check.due("clear() again", x.clear(), 0);
        Check.due("count(6) after clear()", x.count(6), 0);
        Check.type(x, ";");
        Check.due("what was cleared is gone", x.valley(), -10);
        Check.due("clear() leaves the valley", x.count(0), 4);
    }

    /** What valley() answers to a text on a new object; a text with FAULT stays. */
    private static void valley(String text, int due) {
        EchoesFirst x = new EchoesFirst();
        Check.type(x, text);
        Check.due("valley() of '" + text + "'", x.valley(), due);
        Check.due("THE TEXT after '" + text + "'", x.count(6), due < 0 ? text.length() : 0);
    }

    private static void textsWithoutFault() {
        valley("", 0);
        valley("   ", 0);
        valley("n 2;", 1);
        valley("n6;", 1);
        valley("  n  6  ;  ", 1);
        valley("n 3;f 0 1 4;p 0 0 40 1 2;", 3);
        valley("n3;f0 0 0;f2 2 9;p2 40 40 7;p0 0 0 0;", 5);
        valley("f 0 1 5;f 1 0 7;", 2);
        valley("p 3 0 40 7 6 5 4 3 2 1 0;", 1);
        valley("p 0 5 5 0;", 1);
        valley("n 5;f 4 4 4;p 4 0 1 3;", 3);
        valley("p0 0 0 0;p0 0 0 0;p0 0 0 0;p0 0 0 0;p0 0 0 0;p0 0 0 0;", 6);
    }

    private static void placesOfFault() {
        valley("x;", -10);
        valley(" x;", -11);
        valley("nn 3;", -10);
        valley("np 3;", -10);
        valley("na 3;", -10);
        valley("nz 3;", -10);
        valley("n` 3;", -11);
        valley("n{ 3;", -11);
        valley("an 3;", -10);
        valley("zn 3;", -10);
        valley(";", -10);
        valley("n 3;;", -14);
        valley("3", -10);
        valley("N 3;", -10);
        valley("\t", -10);
        valley("n\t3;", -11);
        valley("n 3!;", -13);
        valley("n 3;\u00ff", -14);
        valley("n 3;\u0000", -14);
        valley("`", -10);
        valley("{", -10);
        valley("n /;", -12);
        valley("n :;", -12);
        valley("n x;", -12);
        valley("n;", -11);
        valley("n 3 4;", -14);
        valley("n 3 n;", -14);
        valley("n3f0 1 2;", -12);
        valley("n 3;n 3;", -14);
        valley("f 0 1 3;n 3;", -18);
        valley("p 0 0 0 0; n 4;", -21);
        valley("f 0 1;", -15);
        valley("f 0 1 1 1;", -18);
        valley("f f 1 1;", -12);
        valley("p 0 0 0;", -17);
        valley("p;", -11);
        valley("p 0 0 0 x;", -18);
        valley("a", -10);
        valley("z", -10);
        valley("n 3;q 0 0 0 0;", -14);
        valley("f 0 1 1;g 0 1 1;", -18);
    }

    private static void faultsOfNumbers() {
        valley("n 0;", -12);
        valley("n 1;", -12);
        valley("n 7;", -12);
        valley("n 10;", -12);
        valley("n 02;", -12);
        valley("n 99;", -12);
        valley("n 100;", -12);
        valley("n 4294967299;", -12);
        valley("f 4 0 1;", -12);
        valley("f 0 4 1;", -14);
        valley("n 5;f 4 0 1;", 2);
        valley("n 2;f 2 0 1;", -16);
        valley("n 2;f 0 2 1;", -18);
        valley("n 2;f 1 1 1;", 2);
        valley("f 0 1 10;", -16);
        valley("f 0 1 9;", 1);
        valley("f 00 1 9;", -12);
        valley("f 0 01 9;", -14);
        valley("f 0 1 00;", -16);
        valley("n 2;p 2 0 0 0;", -16);
        valley("n 2;p 1 0 0 0;", 2);
        valley("p 4 0 0 0;", -12);
        valley("p 0 41 41 0;", -14);
        valley("p 0 40 40 0;", 1);
        valley("p 0 0 41 0;", -16);
        valley("p 0 100 40 0;", -14);
        valley("p 0 0 40 8;", -19);
        valley("p 0 0 40 00;", -19);
        valley("p 0 0 40 007;", -19);
        valley("p 0 0 40 0 17;", -21);
    }

    private static void faultsOfPeople() {
        valley("p 0 5 4 0;", -16);
        valley("p 0 10 9 0;", -17);
        valley("p 0 9 10 0;", 1);
        valley("p 0 0 0 0 0;", -20);
        valley("p 0 0 0 7 7;", -20);
        valley("p 0 0 0 1 2 1;", -22);
        valley("p 0 0 0 0 1 2 3 4 5 6 7 0;", -34);
        valley("p 0 0 0 0 1 2 3 4 5 6 7 8;", -34);
        String six = "p0 0 0 0;p0 0 0 0;p0 0 0 0;p0 0 0 0;p0 0 0 0;p0 0 0 0;";
        valley(six + "p0 0 0 0;", -64);
        valley(six + " p", -65);
        valley(six + "f 0 1 2;", 7);
        valley(six + "x", -64);
    }

    private static void endsTooEarly() {
        valley("n", -11);
        valley("n ", -12);
        valley("n 3", -13);
        valley("n 3  ", -15);
        valley("n 9", -12);
        valley("f", -11);
        valley("f 0 1", -15);
        valley("f 0 1 1", -17);
        valley("p 0", -13);
        valley("p 0 0 0 ", -18);
        valley("p 0 0 0 1", -19);
        valley("p 0 0 0 1 2  ", -23);
        valley("n 3;f", -15);
    }

    private static void longTexts() {
        String blanks = " ".repeat(100);
        valley(blanks + blanks, 0);
        valley(blanks + blanks.substring(1) + "n", -210);
        valley(blanks + blanks.substring(1) + "x", -209);
        valley(blanks + blanks.substring(4) + "n 3;", 1);
        String far = "f 0 1 2;";
        valley(far.repeat(25), 25);
        valley("f".repeat(200), -10);
        valley("1".repeat(200), -10);
        valley("n " + "1".repeat(198), -12);
    }

    /** What was cleared or taken does not come back behind a shorter text. */
    private static void bytesOfEarlierTexts() {
        EchoesFirst x = new EchoesFirst();
        String[] earlier = {"n 34;", "n 3   ;", "n 3;f 0 1 2;", "f 0 1 22222"};
        for (String text : earlier) {
            Check.type(x, text);
            Check.type(x, "n 3");
            Check.due("'n 3' behind '" + text + "'", x.valley(), -13);
        }
        Check.tell(x, "n 3;f 0 1 2;");
        Check.type(x, "f");
        Check.due("'f' behind a text that was taken", x.valley(), -11);
        Check.type(x, "f 0 1 2;p");
        Check.type(x, "f 0 1 2;");
        Check.due("a whole text behind a longer one", x.valley(), 1);
    }

    private static void textGoesOnAfterFault() {
        EchoesFirst x = new EchoesFirst();
        Check.type(x, "n 3");
        Check.due("valley() too early", x.valley(), -13);
        Check.due("one byte more", x.type(';'), 4);
        Check.due("valley() then", x.valley(), 1);
        Check.due("PLACES then", x.count(0), 3);
    }

    private static void faultChangesNothing() {
        EchoesFirst x = Check.told("n 3;f 0 1 4;p 0 0 40 1 2;p 1 2 30 2;");
        Check.log(x, 5, 1, 1, 1);
        Check.log(x, 6, 1, 1, 0);
        Check.pass(x, 3);
        x.makes(0, 2);
        x.moves(1, 2);
        x.keep(1);
        x.mark(4, 2);
        Check.type(x, "n 2;f 0 1 9;p 1 0 0 5;p 0 0 0 0 0;");
        String before = Check.face(x);
        Check.due("valley() with a FAULT", x.valley(), -42);
        Check.same("a FAULT changes nothing", Check.face(x), before);
        Check.due("valley() with a FAULT again", x.valley(), -42);
        Check.due("IMAGES stay", x.back(1), 3);
        Check.due("what may be undone stays", x.undo(), 4);
        Check.due("clear() has it all", x.clear(), 34);
    }

    private static void readAnew() {
        EchoesFirst x = Check.told("n 6;f 0 1 4;f 5 5 9;p 0 0 40 1 2;p 1 2 30 2;");
        Check.log(x, 5, 1, 1, 1);
        Check.pass(x, 3);
        x.makes(0, 2);
        x.moves(1, 2);
        x.keep(0);
        x.keep(1);
        x.mark(0, 2);
        Check.type(x, "p 3 1 9 4 5;");
        Check.due("valley() anew", x.valley(), 1);
        Check.due("THE TEXT is empty", x.count(6), 0);
        Check.due("PLACES as at first", x.count(0), 4);
        Check.due("PEOPLE as told", x.count(1), 1);
        Check.due("FAR as at first", x.far(0, 1), 3);
        Check.due("FAR to itself as at first", x.far(3, 3), 1);
        Check.due("no LOG", x.count(2), 0);
        Check.due("NOW 0", x.count(3), 0);
        Check.due("nothing DONE", x.count(4), 0);
        Check.due("nothing to be UNDONE", x.undo(), STATE);
        Check.due("IMAGE 0 is gone", x.back(0), STATE);
        Check.due("IMAGE 1 is gone", x.back(1), STATE);
        Check.due("THE TRACE stays", x.trace(), 1);
        Check.due("PLACE of a person anew", x.person(0, 0), 3);
        Check.due("FAR of PLACES that come again", farOfSixAgain(x), 1);
        Check.due("an empty text tells all, too", x.valley(), 0);
        Check.due("nobody is there then", x.count(1), 0);
    }

    private static int farOfSixAgain(EchoesFirst x) {
        Check.tell(x, "n 6;");
        return x.far(5, 5);
    }

    private static void far() {
        EchoesFirst x = Check.told("n 6;f 0 1 5;f 1 0 7;f 5 2 0;f 3 3 9;f 4 5 1;f 4 5 2;");
        int[][] due = {
            {1, 7, 3, 3, 3, 3}, {7, 1, 3, 3, 3, 3}, {3, 3, 1, 3, 3, 0},
            {3, 3, 3, 9, 3, 3}, {3, 3, 3, 3, 1, 2}, {3, 3, 0, 3, 2, 1}};
        for (int a = 0; a < 6; a++) {
            for (int b = 0; b < 6; b++) {
                Check.due("far(" + a + ", " + b + ")", x.far(a, b), due[a][b]);
            }
        }
        Check.due("far(6, 0)", x.far(6, 0), BAD);
        Check.due("far(0, 6)", x.far(0, 6), BAD);
        Check.due("far(-1, 0)", x.far(-1, 0), BAD);
        Check.due("far(0, -1)", x.far(0, -1), BAD);
        Check.due("far(most, most)", x.far(Integer.MAX_VALUE, Integer.MAX_VALUE), BAD);
        EchoesFirst y = Check.told("n 2;");
        Check.due("far(1, 1) of two", y.far(1, 1), 1);
        Check.due("far(2, 1) of two", y.far(2, 1), BAD);
        Check.due("far(1, 2) of two", y.far(1, 2), BAD);
    }

    private static void person() {
        EchoesFirst x = Check.told("p 2 3 40 7 0;p 3 0 5 1;");
        int[][] due = {{2, 129, 3, 40}, {3, 2, 0, 5}};
        for (int p = 0; p < 2; p++) {
            for (int what = 0; what < 4; what++) {
                Check.due("person(" + p + ", " + what + ")", x.person(p, what), due[p][what]);
            }
            Check.due("person(" + p + ", -1)", x.person(p, -1), BAD);
            Check.due("person(" + p + ", 4)", x.person(p, 4), BAD);
        }
        Check.due("person(2, 0)", x.person(2, 0), BAD);
        Check.due("person(-1, 0)", x.person(-1, 0), BAD);
        x.moves(0, 1);
        Check.due("person(0, 0) when moved", x.person(0, 0), 1);
        Check.due("person(0, 2) when moved", x.person(0, 2), 3);
        x.undo();
        Check.due("person(0, 0) when undone", x.person(0, 0), 2);
        EchoesFirst y = Check.told("p 0 0 40 0 1 2 3 4 5 6 7;");
        Check.due("all SOUNDS", y.person(0, 1), 255);
    }
}
