/** The edges that the document names for promises 1 to 6: a new object, THE TEXT, what it tells. */
public final class EdgesOfValleyTest {
    private static final int BAD = Edges.BAD, STATE = Edges.STATE, FULL = Edges.FULL, NONE = Edges.NONE;
    private static final String SIX = "p0 0 0 0;p0 0 0 0;p0 0 0 0;p0 0 0 0;p0 0 0 0;p0 0 0 0;";

    public static void main(String[] args) {
        newObjectIsAsTold();
        newObjectHasNobody();
        newObjectHasNothingHeard();
        newObjectCanBeAskedAll();
        bytesAreFrom0To255();
        twoHundredBytesAtMost();
        badIsAheadOfFull();
        whatIsFullIsReadWhole();
        clearOfNone();
        clearOfAllTwoHundred();
        clearLeavesAllElse();
        itemsMayBeNone();
        blanksMayBeAnywhere();
        blanksNeedNotBe();
        blanksAlonePartNumbers();
        noOtherByteIsBlank();
        everyByteAlone();
        everyByteBehindAnItem();
        everyByteBehindLetters();
        everyLetterAndLettersSideBySide();
        placesFromTwoToSix();
        placesNotToldAreFour();
        placesAreTheFirstOfAll();
        farFromNaughtToNine();
        farBetweenPlacesThereAre();
        farOfAPlaceToItself();
        farToldAgain();
        farBothWaysAlike();
        peopleAtPlacesThereAre();
        peopleFromNaughtToForty();
        toIsNotBelowFrom();
        soundsFromNaughtToSeven();
        soundsOneAndMore();
        soundsNoneTwice();
        sixPeopleAtMost();
        numbersUpTo99();
        numbersWithANaughtAhead();
        endsTooEarlyAnywhere();
        endsTooEarlyBehindBlanks();
        theFirstFaultCounts();
        itemsThatEndLate();
        faultAtTheLastByte();
        faultLeavesWhatIsFull();
        readAnewIsAsTold();
        readAnewOfNothing();
        readAnewForgetsTheCourse();
        farOfTwoPlaces();
        farOfSixPlaces();
        personsNumber();
        personsWhat();
        personsLeastAndMost();
        Check.end();
    }

    private static void fresh(String call, Edges.Call looked, long want) {
        Edges.due("of a new object: " + call, Edges.nothing(), looked, want);
    }

    // ---- promise 1

    private static void newObjectIsAsTold() {
        int[] counts = {4, 0, 0, 0, 0, 0, 0};
        for (int what = 0; what < counts.length; what++) {
            int asked = what;
            fresh("count(" + what + ")", x -> x.count(asked), counts[what]);
        }
        for (int a = 0; a < 16; a++) {
            int pair = a;
            fresh("far(" + a / 4 + ", " + a % 4 + ")", x -> x.far(pair / 4, pair % 4), a / 4 == a % 4 ? 1 : 3);
        }
        fresh("trace()", EchoesFirst::trace, 0);
        fresh("clear()", EchoesFirst::clear, 0);
        fresh("forget()", EchoesFirst::forget, 0);
        fresh("undo()", EchoesFirst::undo, STATE);
        fresh("back(0)", x -> x.back(0), STATE);
        fresh("back(1)", x -> x.back(1), STATE);
        fresh("keep(0)", x -> x.keep(0), 0);
        fresh("second()", EchoesFirst::second, 1);
        fresh("type(0)", x -> x.type(0), 1);
        fresh("valley()", EchoesFirst::valley, 0);
    }

    private static void newObjectHasNobody() {
        for (int p = -1; p < 7; p++) {
            int who = p;
            for (int what = 0; what < 4; what++) {
                int asked = what;
                fresh("person(" + p + ", " + what + ")", x -> x.person(who, asked), BAD);
            }
            fresh("makes(" + p + ", 0)", x -> x.makes(who, 0), BAD);
            fresh("moves(" + p + ", 1)", x -> x.moves(who, 1), BAD);
            fresh("begin(" + p + ", ..)", x -> x.begin(who, 0, 0, 0), BAD);
            fresh("together(.., " + p + ")", x -> x.together(0, 0, who), BAD);
            fresh("odds(" + p + ", ..)", x -> x.odds(who, 0, 0), BAD);
            fresh("done(" + p + ", 0)", x -> x.done(who, 0), BAD);
        }
        fresh("played(1, 0, 0)", x -> x.played(1, 0, 0), 0);
        fresh("mark(1, 7)", x -> x.mark(1, 7), 7);
        fresh("mark(3, 7)", x -> x.mark(3, 7), 14);
    }

    private static void newObjectHasNothingHeard() {
        fresh("who(0)", x -> x.who(0), BAD);
        fresh("nobody()", EchoesFirst::nobody, NONE);
        fresh("deeds(0)", x -> x.deeds(0), 0);
        fresh("deeds(1)", x -> x.deeds(1), 1);
        fresh("deeds(2)", x -> x.deeds(2), 0);
        fresh("first(0)", x -> x.first(0), Edges.NOT_SO_MANY);
        fresh("first(-1)", x -> x.first(-1), BAD);
        for (int what = 0; what < 3; what++) {
            int asked = what;
            fresh("now(" + what + ")", x -> x.now(asked), 0);
        }
    }

    private static void newObjectCanBeAskedAll() {
        fresh("sit(0)", x -> x.sit(0), 1);
        fresh("sit(3)", x -> x.sit(3), 0);
        fresh("sit(4)", x -> x.sit(4), BAD);
        fresh("sure(3, 7)", x -> x.sure(3, 7), 41);
        fresh("sure(4, 7)", x -> x.sure(4, 7), BAD);
        fresh("played(0, 3, 40)", x -> x.played(0, 3, 40), 1);
        fresh("heard(40, 3, 7, 1)", x -> x.heard(40, 3, 7, 1), 1);
        fresh("heard(40, 4, 7, 1)", x -> x.heard(40, 4, 7, 1), BAD);
        fresh("mark(0, 7)", x -> x.mark(0, 7), 7);
        fresh("mark(5, 0)", x -> x.mark(5, 0), 0);
    }

    // ---- promises 2 and 3

    private static void bytesAreFrom0To255() {
        Edges.numbers("type(c)", Edges.nothing(), EchoesFirst::type, 0, 255);
        Edges.numbers("type(c) behind some", Edges::some, EchoesFirst::type, 0, 255);
    }

    private static void twoHundredBytesAtMost() {
        EchoesFirst x = new EchoesFirst();
        for (int k = 1; k <= 200; k++) {
            Check.due("type(), the " + k + "th", x.type(k), k);
        }
        Check.due("type(), one more", x.type(0), FULL);
        Check.due("THE TEXT has", x.count(6), 200);
        Edges.refused("type(32) of a full text", Edges::full, y -> y.type(32), FULL);
        Edges.refused("type(0) of a full text", Edges::full, y -> y.type(0), FULL);
        Edges.refused("type(255) of a full text", Edges::full, y -> y.type(255), FULL);
    }

    private static void badIsAheadOfFull() {
        int[] wrong = {-1, 256, Edges.LEAST, Edges.MOST};
        for (int c : wrong) {
            Edges.refused("type(" + c + ") of a full text", Edges::full, x -> x.type(c), BAD);
        }
    }

    private static void whatIsFullIsReadWhole() {
        EchoesFirst x = new EchoesFirst();
        Check.type(x, "f 0 1 2;".repeat(25));
        Check.due("a byte more", x.type('x'), FULL);
        Check.due("valley() of 200 bytes", x.valley(), 25);
        Check.due("room again", x.type('x'), 1);
    }

    private static void clearOfNone() {
        EchoesFirst x = new EchoesFirst();
        Check.due("clear() of none", x.clear(), 0);
        Check.due("clear() of none again", x.clear(), 0);
        x.type(-1);
        Check.due("clear() behind a refused byte", x.clear(), 0);
        x.type(59);
        Check.due("clear() of one", x.clear(), 1);
        x.type('n');
        Check.due("a text anew", x.valley(), -11);
        Check.due("clear() of one with FAULT", x.clear(), 1);
        Check.due("valley() of the cleared text", x.valley(), 0);
        Check.due("clear() behind valley()", x.clear(), 0);
    }

    private static void clearOfAllTwoHundred() {
        EchoesFirst x = Edges.after(Edges::full);
        Check.due("clear() of a full text", x.clear(), 200);
        Check.due("THE TEXT has none", x.count(6), 0);
        for (int k = 1; k <= 100; k++) {
            Check.due("type() behind clear()", x.type(32), k);
        }
    }

    private static void clearLeavesAllElse() {
        EchoesFirst x = Edges.after(Edges::some);
        EchoesFirst y = Edges.after(Edges::some);
        Check.due("clear()", x.clear(), 12);
        Check.type(x, "n 5;f 4 4 0;");
        Check.same("clear() leaves all else", Check.face(x), Check.face(y));
        Check.due("clear() leaves IMAGES", x.back(0), y.back(0));
        Check.due("clear() leaves what may be UNDONE", x.undo(), y.undo());
    }

    // ---- promise 4: what a text may be

    private static void items(String text, int due) {
        EchoesFirst x = new EchoesFirst();
        Check.type(x, text);
        Check.due("valley() of '" + text + "'", x.valley(), due);
        Check.due("THE TEXT is empty then", x.count(6), 0);
    }

    private static void fault(String text, int place) {
        Edges.refused("valley() of '" + text + "'", x -> {
            Edges.some(x);
            Check.type(x, text);
        }, EchoesFirst::valley, -10 - place);
    }

    private static void itemsMayBeNone() {
        items("", 0);
        items(" ", 0);
        items(" ".repeat(200), 0);
    }

    private static void blanksMayBeAnywhere() {
        items("   n   3   ;   f   0   1   2   ;   p   0   0   40   1   2   ;   ", 3);
        items("n 3;", 1);
        items(" n 3;", 1);
        items("n 3 ;", 1);
        items("n 3; ", 1);
        items("f  0 1 2;", 1);
        items("f 0  1 2;", 1);
        items("f 0 1  2;", 1);
    }

    private static void blanksNeedNotBe() {
        items("n3;f0 1 2;p0 0 40 1 2;", 3);
        fault("nf0 1 2;", 0);
        fault("n3f0 1 2;", 2);
    }

    private static void blanksAlonePartNumbers() {
        fault("f 012;", 2);
        fault("f 12;", 2);
        fault("f 1 2;", 5);
        fault("n 3 3;", 4);
        fault("p 0 040 1;", 4);
        items("p 0 0 40 7 1;", 1);
        fault("p 0 0 40 71;", 9);
    }

    private static void noOtherByteIsBlank() {
        int[] others = {0, 9, 10, 11, 12, 13, 31, 33, 127, 128, 160, 255};
        for (int c : others) {
            fault((char) c + "n 3;", 0);
            fault("n" + (char) c + "3;", 1);
            fault("n 3" + (char) c + ";", 3);
            fault("n 3;" + (char) c, 4);
        }
    }

    private static boolean isLetter(int c) {
        return c >= 'a' && c <= 'z';
    }

    private static int answerOf(EchoesFirst x, String text) {
        Check.type(x, text);
        return x.valley();
    }

    private static void everyByteAlone() {
        for (int c = 0; c < 256; c++) {
            int due = c == 32 ? 0 : c == 'n' || c == 'f' || c == 'p' ? -11 : -10;
            Check.due("valley() of the byte " + c, answerOf(new EchoesFirst(), "" + (char) c), due);
        }
    }

    private static void everyByteBehindAnItem() {
        for (int c = 0; c < 256; c++) {
            int due = c == 32 ? 1 : c == 'f' || c == 'p' ? -15 : -14;
            Check.due("valley() with the byte " + c + " behind an ITEM",
                answerOf(new EchoesFirst(), "n 3;" + (char) c), due);
        }
    }

    private static void everyByteBehindLetters() {
        for (int c = 0; c < 256; c++) {
            boolean isPlaces = c >= '2' && c <= '6';
            int due = isPlaces || c == 32 ? -12 : isLetter(c) ? -10 : -11;
            Check.due("valley() of 'n' and the byte " + c, answerOf(new EchoesFirst(), "n" + (char) c), due);
        }
    }

    private static void everyLetterAndLettersSideBySide() {
        for (char c = 'a'; c <= 'z'; c++) {
            if (c != 'n' && c != 'f' && c != 'p') {
                fault(c + " 3;", 0);
                fault("n 3;" + c + " 0 1 2;", 4);
            }
            fault("n" + c + " 3;", 0);
            fault(c + "f 0 1 2;", 0);
            fault("n 3; p" + c + " 0 0 40 1;", 5);
        }
    }

    // ---- promise 4: PLACES

    private static void placesFromTwoToSix() {
        for (int n = 0; n <= 101; n++) {
            if (n >= 2 && n <= 6) {
                items("n " + n + ";", 1);
                Check.due("count(0) of n " + n, Check.told("n " + n + ";").count(0), n);
            } else {
                fault("n " + n + ";", 2);
            }
        }
    }

    private static void placesNotToldAreFour() {
        EchoesFirst x = Check.told("n 6;");
        Check.tell(x, "p 3 0 40 0;");
        Check.due("PLACES not told", x.count(0), 4);
        fault("p 4 0 40 0;", 2);
        fault("f 0 4 1;", 4);
        items("f 3 3 1;", 1);
    }

    private static void placesAreTheFirstOfAll() {
        items("n 2;f 0 1 1;p 0 0 0 0;", 3);
        fault("n 2;n 2;", 4);
        fault("f 0 1 1;n 2;", 8);
        fault("p 0 0 0 0;n 2;", 10);
        fault("n 2;f 0 1 1; n 3;", 13);
        fault("n 2;n", 4);
        fault("n 2;nn", 4);
    }

    // ---- promise 4: FAR

    private static void farFromNaughtToNine() {
        for (int s = 0; s <= 100; s++) {
            if (s <= 9) {
                Check.due("far(0, 1) told as " + s, Check.told("f 0 1 " + s + ";").far(0, 1), s);
                Check.due("far(1, 1) told as " + s, Check.told("f 1 1 " + s + ";").far(1, 1), s);
            } else if (s < 13 || s > 97) {
                fault("f 0 1 " + s + ";", 6);
            }
        }
    }

    private static void farBetweenPlacesThereAre() {
        for (int n = 2; n <= 6; n++) {
            for (int a = 0; a <= 7; a++) {
                if (a < n) {
                    items("n " + n + ";f " + a + " 0 1;", 2);
                    items("n " + n + ";f 0 " + a + " 1;", 2);
                } else {
                    fault("n " + n + ";f " + a + " 0 1;", 6);
                    fault("n " + n + ";f 0 " + a + " 1;", 8);
                }
            }
        }
    }

    private static void farOfAPlaceToItself() {
        EchoesFirst x = Check.told("n 3;f 0 0 0;f 2 2 9;");
        Check.due("far(0, 0) as told", x.far(0, 0), 0);
        Check.due("far(1, 1) not told", x.far(1, 1), 1);
        Check.due("far(2, 2) as told", x.far(2, 2), 9);
        Check.due("far(0, 2) not told", x.far(0, 2), 3);
    }

    private static void farToldAgain() {
        EchoesFirst x = Check.told("f 0 1 5;f 0 1 7;f 2 3 9;f 3 2 0;f 1 1 6;f 1 1 2;");
        Check.due("far(0, 1) told again", x.far(0, 1), 7);
        Check.due("far(2, 3) told again the other way", x.far(2, 3), 0);
        Check.due("far(1, 1) told again", x.far(1, 1), 2);
        items("f 0 1 5;f 0 1 5;", 2);
    }

    private static void farBothWaysAlike() {
        EchoesFirst x = Check.told("n 6;f 0 5 8;f 4 1 2;");
        Check.due("far(0, 5)", x.far(0, 5), 8);
        Check.due("far(5, 0)", x.far(5, 0), 8);
        Check.due("far(4, 1)", x.far(4, 1), 2);
        Check.due("far(1, 4)", x.far(1, 4), 2);
    }

    // ---- promise 4: PEOPLE

    private static void peopleAtPlacesThereAre() {
        for (int n = 2; n <= 6; n++) {
            for (int a = 0; a <= 7; a++) {
                if (a < n) {
                    Check.due("PLACE told as " + a, Check.told("n " + n + ";p " + a + " 0 40 0;").person(0, 0), a);
                } else {
                    fault("n " + n + ";p " + a + " 0 40 0;", 6);
                }
            }
        }
    }

    private static void peopleFromNaughtToForty() {
        int[] seconds = {0, 1, 39, 40};
        for (int s : seconds) {
            EchoesFirst x = Check.told("p 0 " + s + " 40 0;p 0 0 " + s + " 0;");
            Check.due("FROM told as " + s, x.person(0, 2), s);
            Check.due("TO told as " + s, x.person(1, 3), s);
        }
        int[] beyond = {41, 42, 99, 100};
        for (int s : beyond) {
            fault("p 0 " + s + " 40 0;", 4);
            fault("p 0 " + s + " " + s + " 0;", 4);
            fault("p 0 0 " + s + " 0;", 6);
        }
    }

    private static void toIsNotBelowFrom() {
        items("p 0 0 0 0;", 1);
        items("p 0 40 40 0;", 1);
        items("p 0 39 40 0;", 1);
        items("p 0 9 10 0;", 1);
        fault("p 0 1 0 0;", 6);
        fault("p 0 40 39 0;", 7);
        fault("p 0 10 9 0;", 7);
        fault("p 0 5 4", 6);
    }

    private static void soundsFromNaughtToSeven() {
        for (int sound = 0; sound < 8; sound++) {
            Check.due("SOUNDS told as " + sound, Check.told("p 0 0 40 " + sound + ";").person(0, 1), 1 << sound);
        }
        int[] beyond = {8, 9, 10, 71, 99, 100};
        for (int sound : beyond) {
            fault("p 0 0 40 " + sound + ";", 9);
            fault("p 0 0 40 7 " + sound + ";", 11);
        }
    }

    private static void soundsOneAndMore() {
        fault("p 0 0 40;", 8);
        fault("p 0 0 40 ;", 9);
        fault("p 0 0 40 p", 9);
        items("p 0 0 40 1;", 1);
        Check.due("all SOUNDS", Check.told("p 0 0 40 7 0 6 1 5 2 4 3;").person(0, 1), 255);
        fault("p 0 0 40 0 1 2 3 4 5 6 7 0;", 25);
        fault("p 0 0 40 0 1 2 3 4 5 6 7 8;", 25);
        fault("p 0 0 40 0 1 2 3 4 5 6 7 x", 25);
    }

    private static void soundsNoneTwice() {
        for (int sound = 0; sound < 8; sound++) {
            fault("p 0 0 40 " + sound + " " + sound + ";", 11);
        }
        fault("p 0 0 40 3 4 3;", 13);
        fault("p 0 0 40 3 4 4", 13);
        items("p 0 0 40 3;p 0 0 40 3;", 2);
    }

    private static void sixPeopleAtMost() {
        items(SIX, 6);
        fault(SIX + "p0 0 0 0;", 54);
        fault(SIX + " p0 0 0 0;", 55);
        fault(SIX + "p", 54);
        fault("n 2;" + SIX + "f0 1 9;p x", 65);
        items("n 2;" + SIX + "f0 1 9;", 8);
        EchoesFirst x = Check.told(SIX);
        Check.due("six people", x.count(1), 6);
        Check.tell(x, SIX);
        Check.due("six people again", x.count(1), 6);
    }

    // ---- promise 4: FAULT

    private static void numbersUpTo99() {
        fault("n 100;", 2);
        fault("f 0 1 100;", 6);
        fault("f 0 1 999999999999999999999;", 6);
        fault("n 4294967298;", 2);
        fault("n 258;", 2);
        fault("100", 0);
        fault("n 3;100", 4);
        fault("n 3 100;", 4);
        fault("p 0 0 40 1 100;", 11);
        fault("p 0 0 256 1;", 6);
        fault("p 0 0 140 1;", 6);
    }

    private static void numbersWithANaughtAhead() {
        fault("n 03;", 2);
        fault("n 00;", 2);
        fault("f 00 1 2;", 2);
        fault("f 0 01 2;", 4);
        fault("f 0 1 02;", 6);
        fault("p 00 0 40 1;", 2);
        fault("p 0 00 40 1;", 4);
        fault("p 0 0 040 1;", 6);
        fault("p 0 0 40 01;", 9);
        fault("p 0 0 40 1 02;", 11);
        fault("n 3 00;", 4);
        fault("00", 0);
        items("f 0 0 0;", 1);
    }

    private static void endsTooEarlyAnywhere() {
        String whole = "n 3;f 0 1 9;p 0 0 40 1 2 7;";
        for (int length = 0; length <= whole.length(); length++) {
            String text = whole.substring(0, length);
            if (text.isEmpty() || text.endsWith(";")) {
                items(text, (int) text.chars().filter(c -> c == ';').count());
            } else {
                fault(text, length);
            }
        }
    }

    private static void endsTooEarlyBehindBlanks() {
        fault("n ", 2);
        fault("n 3   ", 6);
        fault("n 3; f   ", 9);
        fault("p 0 0 40 1     ", 15);
        items("n 3;     ", 1);
        fault("n 3" + " ".repeat(197), 200);
    }

    private static void theFirstFaultCounts() {
        fault("n 7", 2);
        fault("n 7;x", 2);
        fault("n 3 x 00", 4);
        fault("f 4 4 10", 2);
        fault("f 3 4 10", 4);
        fault("f 3 3 10", 6);
        fault("f 3 3 9", 7);
        fault("p 9 41 3 8;", 2);
        fault("p 0 41 3 8;", 4);
        fault("p 0 40 3 8;", 7);
        fault("p 0 40 40 8;", 10);
        fault("n 3;!x", 4);
        fault("x!", 0);
    }

    private static void itemsThatEndLate() {
        fault("n 3 ;;", 5);
        fault(";", 0);
        fault("n;", 1);
        fault("f;", 1);
        fault("p;", 1);
        fault("f 0;", 3);
        fault("f 0 1;", 5);
        fault("f 0 1 2 3;", 8);
        fault("f 0 1 2 f;", 8);
        fault("f 0 f 1;", 4);
        fault("f 0 1 f;", 6);
        fault("p 0 p 40 1;", 4);
        fault("p 0 0 p 1;", 6);
        fault("p 0 0 40 p;", 9);
        fault("p 0 0 7 p;", 8);
        fault("p 0 0 7 !;", 8);
        fault("p 0 0 7 00;", 8);
        fault("n 3 3", 4);
        fault("p 0;", 3);
        fault("p 0 0;", 5);
        fault("p 0 0 40;", 8);
    }

    private static void faultAtTheLastByte() {
        fault(" ".repeat(199) + "x", 199);
        fault(" ".repeat(199) + "n", 200);
        fault(" ".repeat(199) + "7", 199);
        fault(" ".repeat(198) + "77", 198);
        fault(" ".repeat(197) + "n 3", 200);
        fault(" ".repeat(193) + "f 0 1 9", 200);
        fault(" ".repeat(199) + ";", 199);
        fault(" ".repeat(199) + (char) 255, 199);
        fault(" ".repeat(198) + "00", 198);
        fault(" ".repeat(196) + "n 3!", 199);
        items(" ".repeat(196) + "n 3;", 1);
    }

    private static void faultLeavesWhatIsFull() {
        Edges.refused("valley() with a FAULT at 199", Edges::full, EchoesFirst::valley, -209);
        Edges.refused("valley() with a FAULT, late", x -> {
            Edges.late(x);
            x.type('9');
        }, EchoesFirst::valley, -10);
    }

    // ---- promise 4: read anew

    private static void readAnewIsAsTold() {
        EchoesFirst x = Edges.after(Edges::some);
        Check.due("valley()", x.valley(), 2);
        Check.due("PLACES as told", x.count(0), 5);
        Check.due("far(4, 4) as told", x.far(4, 4), 0);
        Check.due("far(0, 1) as at first", x.far(0, 1), 3);
        Check.due("far(2, 2) as at first", x.far(2, 2), 1);
        Check.due("nobody is there", x.count(1), 0);
        Check.due("person(0, 0)", x.person(0, 0), BAD);
    }

    private static void readAnewOfNothing() {
        EchoesFirst x = Edges.after(Edges::some);
        x.clear();
        Check.due("valley() of nothing", x.valley(), 0);
        EchoesFirst y = new EchoesFirst();
        y.mark(3, 2);
        Check.same("all is as at first, but for THE TRACE", Check.face(x), Check.face(y));
    }

    private static void readAnewForgetsTheCourse() {
        EchoesFirst x = Edges.after(Edges::full);
        Check.tell(x, "p 3 0 40 0;");
        Check.due("NOW is 0", x.count(3), 0);
        Check.due("nothing is DONE", x.count(4), 0);
        Check.due("done(0, 0)", x.done(0, 0), BAD);
        Check.due("no LOG", x.count(2), 0);
        Check.due("who(0)", x.who(0), BAD);
        Check.due("nothing to be UNDONE", x.count(5), 0);
        Check.due("undo()", x.undo(), STATE);
        Check.due("back(0)", x.back(0), STATE);
        Check.due("back(1)", x.back(1), STATE);
        Check.due("PLACE as told", x.person(0, 0), 3);
        Check.due("all may be DONE again", x.makes(0, 0), 1);
        Check.due("all may be heard again", x.heard(0, 0, 0, 1), 1);
        EchoesFirst y = Edges.after(Edges::some);
        Check.tell(y, "");
        Check.due("THE TRACE stays", y.trace(), 1011);
    }

    // ---- promises 5 and 6

    private static void farOfTwoPlaces() {
        Edges.numbers("far(a, 0) of two", Edges.told("n 2;"), (x, a) -> x.far(a, 0), 0, 1);
        Edges.numbers("far(1, b) of two", Edges.told("n 2;"), (x, b) -> x.far(1, b), 0, 1);
        Edges.numbers("far(a, 3) of four", Edges.nothing(), (x, a) -> x.far(a, 3), 0, 3);
        Edges.numbers("far(0, b) of four", Edges.nothing(), (x, b) -> x.far(0, b), 0, 3);
    }

    private static void farOfSixPlaces() {
        Edges.numbers("far(a, 5) of six", Edges::full, (x, a) -> x.far(a, 5), 0, 5);
        Edges.numbers("far(5, b) of six", Edges::full, (x, b) -> x.far(5, b), 0, 5);
        Edges.refused("far(least, most)", Edges::full, x -> x.far(Edges.LEAST, Edges.MOST), BAD);
        Edges.refused("far(-1, 6)", Edges::full, x -> x.far(-1, 6), BAD);
    }

    private static void personsNumber() {
        Edges.numbers("person(p, 0) of one", Edges.told("p 0 0 40 0;"), (x, p) -> x.person(p, 0), 0, 0);
        Edges.numbers("person(p, 3) of three", Edges::some, (x, p) -> x.person(p, 3), 0, 2);
        Edges.numbers("person(p, 1) of six", Edges::full, (x, p) -> x.person(p, 1), 0, 5);
    }

    private static void personsWhat() {
        Edges.numbers("person(0, what)", Edges.told("p 0 0 40 0;"), (x, what) -> x.person(0, what), 0, 3);
        Edges.numbers("person(5, what)", Edges::full, (x, what) -> x.person(5, what), 0, 3);
    }

    private static void personsLeastAndMost() {
        EchoesFirst x = Check.told("n 6;p 0 0 0 0;p 5 40 40 7;p 2 0 40 0 1 2 3 4 5 6 7;");
        int[][] due = {{0, 1, 0, 0}, {5, 128, 40, 40}, {2, 255, 0, 40}};
        for (int p = 0; p < 3; p++) {
            for (int what = 0; what < 4; what++) {
                Check.due("person(" + p + ", " + what + ")", x.person(p, what), due[p][what]);
            }
        }
        Check.pass(x, 50);
        Check.due("PLACE of one who is nowhere NOW", x.person(0, 0), 0);
    }
}
