/** The edges that the document names for promises 14 to 19: seconds, DONE, MOVED, UNDONE; DUE, PAST, LIES. */
public final class EdgesOfSecondsTest {
    private static final int BAD = Edges.BAD, STATE = Edges.STATE, FULL = Edges.FULL;
    private static final int MOST = Edges.MOST, LEAST = Edges.LEAST;
    private static final String ONE = "n 2;p 0 0 40 0;";

    public static void main(String[] args) {
        secondsUpToSixty();
        theSixtyFirstIsRefused();
        sixtyAgainWhenUndone();
        makesPeople();
        makesSounds();
        makesWhatHeCan();
        makesFromAndTo();
        makesInTheFirstAndLastSecond();
        tenDoneAtMost();
        badThenStateThenFull();
        roomAgainWhenUndone();
        movesPeople();
        movesPlaces();
        movesToWhereHeIs();
        movesOfOneWhoIsNowhere();
        movesAsIfFromTheBeginning();
        undoOfNone();
        undoOfEachKind();
        tenUndoneAtMost();
        theEleventhIsLost();
        refusedOnesAreNotUndone();
        doneNumbers();
        doneWhat();
        doneLeastAndMost();
        nowNumbers();
        nowOfNothing();
        dueOfNoneAndAll();
        dueOfStillOnes();
        dueFromWhereItWasMade();
        dueJustSo();
        pastIsBehindNow();
        pastByDeedsThatCanBe();
        pastOfNoneAndAll();
        liesOfNoneAndAll();
        liesFromWhereTheyWereMade();
        Check.end();
    }

    private static Edges.Script passed(String text, int seconds) {
        return x -> {
            Check.tell(x, text);
            Check.pass(x, seconds);
        };
    }

    // ---- promise 14

    private static void secondsUpToSixty() {
        EchoesFirst x = new EchoesFirst();
        for (int s = 1; s <= 60; s++) {
            Check.due("second(), the " + s + "th", x.second(), s);
        }
        Check.due("NOW", x.count(3), 60);
    }

    private static void theSixtyFirstIsRefused() {
        Edges.refused("second() at 60", passed("", 60), EchoesFirst::second, STATE);
        Edges.refused("second() at 60 of some", Edges::late, EchoesFirst::second, STATE);
        Edges.due("second() at 59", passed("", 59), EchoesFirst::second, 60);
        Edges.due("second() at 40", passed("", 40), EchoesFirst::second, 41);
    }

    private static void sixtyAgainWhenUndone() {
        EchoesFirst x = Edges.after(Edges::late);
        Check.due("undo() at 60", x.undo(), 9);
        Check.due("NOW", x.count(3), 59);
        Check.due("second()", x.second(), 60);
        Check.due("second() at 60 again", x.second(), STATE);
        Check.due("back(0)", x.back(0), 0);
        Check.due("second() of the IMAGE", x.second(), 1);
    }

    // ---- promise 15

    private static void makesPeople() {
        Edges.numbers("makes(p, ..) of one", Edges.told(ONE), (x, p) -> x.makes(p, 0), 0, 0);
        Edges.numbers("makes(p, ..) of three", Edges::some, (x, p) -> x.makes(p, 1), 0, 2);
        Edges.numbers("makes(p, ..) of six", Edges::full, (x, p) -> x.makes(p, 1), 0, 5);
    }

    private static void makesSounds() {
        Edges.numbers("makes(.. sound)", Edges.told("p 0 0 40 0 7;"), (x, sound) -> x.makes(0, sound), 0, 7);
        Edges.numbers("makes(.. sound) of some", Edges::some, (x, sound) -> x.makes(2, sound), 0, 7);
        Edges.numbers("makes(.. sound) at 60", Edges::late, (x, sound) -> x.makes(0, sound), 0, 7);
    }

    private static void makesWhatHeCan() {
        for (int can = 0; can < 8; can++) {
            Edges.Script one = Edges.told("p 0 0 40 " + can + ";");
            for (int sound = 0; sound < 8; sound++) {
                int made = sound;
                if (sound == can) {
                    Edges.due("makes what he can, " + can, one, x -> x.makes(0, made), 1);
                } else {
                    Edges.refused("makes " + sound + " being one for " + can, one, x -> x.makes(0, made), STATE);
                }
            }
        }
    }

    private static void makesFromAndTo() {
        String text = "p 0 3 5 0;p 0 4 4 0;";
        int[] first = {STATE, STATE, STATE, 1, 1, 1, STATE, STATE};
        int[] second = {STATE, STATE, STATE, STATE, 1, STATE, STATE, STATE};
        for (int s = 0; s < 8; s++) {
            makesIn(s, text, 0, first[s]);
            makesIn(s, text, 1, second[s]);
        }
    }

    private static void makesIn(int s, String text, int p, int due) {
        Edges.Call makes = x -> x.makes(p, 0);
        if (due == STATE) {
            Edges.refused("makes() in " + s, passed(text, s), makes, STATE);
        } else {
            Edges.due("makes() in " + s, passed(text, s), makes, due);
        }
    }

    private static void makesInTheFirstAndLastSecond() {
        makesIn(0, "p 0 0 0 0;", 0, 1);
        makesIn(1, "p 0 0 0 0;", 0, STATE);
        makesIn(39, "p 0 40 40 0;", 0, STATE);
        makesIn(40, "p 0 40 40 0;", 0, 1);
        makesIn(41, "p 0 40 40 0;", 0, STATE);
        makesIn(60, "p 0 0 40 0;", 0, STATE);
    }

    private static void tenDoneAtMost() {
        EchoesFirst x = Check.told(ONE);
        for (int k = 1; k <= 10; k++) {
            Check.due("makes(), the " + k + "th", x.makes(0, 0), k);
        }
        Check.due("makes(), the eleventh", x.makes(0, 0), FULL);
        Check.due("count(4)", x.count(4), 10);
        Check.due("done(10, 0)", x.done(10, 0), BAD);
        Edges.refused("an eleventh", Edges::full, y -> y.makes(0, 0), FULL);
        Edges.refused("an eleventh of one moved", Edges::full, y -> y.makes(4, 7), FULL);
    }

    private static void badThenStateThenFull() {
        Edges.refused("an eleventh of person 6", Edges::full, x -> x.makes(6, 0), BAD);
        Edges.refused("an eleventh of person -1", Edges::full, x -> x.makes(-1, 0), BAD);
        Edges.refused("an eleventh of SOUND 8", Edges::full, x -> x.makes(0, 8), BAD);
        Edges.refused("an eleventh of SOUND -1", Edges::full, x -> x.makes(0, -1), BAD);
        Edges.refused("an eleventh that he can't make", Edges::full, x -> x.makes(0, 1), STATE);
        Edges.refused("an eleventh of one not there NOW", Edges::full, x -> x.makes(5, 0), STATE);
        Edges.refused("SOUND 8 of one not there NOW", Edges::late, x -> x.makes(0, 8), BAD);
        Edges.refused("person 2 at 60", Edges::late, x -> x.makes(2, 0), BAD);
        Edges.refused("one not there NOW", Edges::late, x -> x.makes(0, 1), STATE);
    }

    private static void roomAgainWhenUndone() {
        EchoesFirst x = Check.told(ONE);
        for (int k = 0; k < 10; k++) {
            x.makes(0, 0);
        }
        Check.due("undo()", x.undo(), 9);
        Check.due("makes(), the tenth again", x.makes(0, 0), 10);
        Check.due("makes(), the eleventh again", x.makes(0, 0), FULL);
        Check.due("ten may be UNDONE", x.count(5), 10);
    }

    // ---- promise 16

    private static void movesPeople() {
        Edges.numbers("moves(p, ..) of one", Edges.told(ONE), (x, p) -> x.moves(p, 1), 0, 0);
        Edges.numbers("moves(p, ..) of three", Edges::some, (x, p) -> x.moves(p, 2), 0, 2);
        Edges.numbers("moves(p, ..) of six", Edges::full, (x, p) -> x.moves(p, 0), 0, 5);
    }

    private static void movesPlaces() {
        Edges.numbers("moves(.. place) of two", Edges.told(ONE), (x, place) -> x.moves(0, place), 0, 1);
        Edges.numbers("moves(.. place) of three", Edges::some, (x, place) -> x.moves(1, place), 0, 2);
        Edges.numbers("moves(.. place) of six", Edges::full, (x, place) -> x.moves(5, place), 0, 5);
        Edges.refused("moves() all wrong", Edges::some, x -> x.moves(MOST, LEAST), BAD);
    }

    private static void movesToWhereHeIs() {
        for (int place = 0; place < 6; place++) {
            Edges.Script one = Edges.told("n 6;p " + place + " 0 40 0;");
            for (int to = 0; to < 6; to++) {
                int target = to;
                if (to == place) {
                    Edges.refused("moves to where he is, " + to, one, x -> x.moves(0, target), STATE);
                } else {
                    Edges.due("moves from " + place + " to " + to, one, x -> x.moves(0, target), place);
                }
            }
        }
        Edges.refused("moves to where he was moved", Edges::full, x -> x.moves(4, 2), STATE);
        Edges.due("moves to where he was told", Edges::full, x -> x.moves(4, 4), 2);
    }

    private static void movesOfOneWhoIsNowhere() {
        Edges.due("moves ahead of FROM", Edges.told("n 2;p 1 9 9 0;"), x -> x.moves(0, 0), 1);
        Edges.due("moves behind TO", Edges::late, x -> x.moves(0, 1), 0);
        Edges.refused("moves behind TO to where he is", Edges::late, x -> x.moves(0, 0), STATE);
    }

    private static void movesAsIfFromTheBeginning() {
        EchoesFirst x = Check.told("n 3;f 0 1 4;f 0 2 9;p 0 0 20 0;");
        Check.log(x, 3, 1, 0, 1);
        Check.pass(x, 30);
        Check.due("first(0) from PLACE 0", x.first(0), 7);
        Check.due("moves() when all is over", x.moves(0, 1), 0);
        Check.due("first(0) from PLACE 1", x.first(0), 4);
        Check.due("sure(0, 0) of where he was never", x.sure(0, 0), 41);
        Check.due("sure(1, 0) of where he always was", x.sure(1, 0), 20);
    }

    // ---- promise 17

    private static void undoOfNone() {
        Edges.refused("undo() of a new object", Edges.nothing(), EchoesFirst::undo, STATE);
        Edges.refused("undo() of what is told", Edges.told(ONE), EchoesFirst::undo, STATE);
        Edges.Script allUndone = x -> {
            Check.tell(x, ONE);
            x.second();
            x.keep(0);
            x.undo();
        };
        Edges.refused("undo() when all is undone", allUndone, EchoesFirst::undo, STATE);
        Edges.refused("undo() behind valley()", x -> {
            Edges.full(x);
            Check.tell(x, ONE);
        }, EchoesFirst::undo, STATE);
    }

    private static void undoOfEachKind() {
        EchoesFirst x = Check.told("n 3;p 0 0 40 0;p 2 0 40 7;");
        x.second();
        x.makes(1, 7);
        x.moves(0, 1);
        x.moves(1, 1);
        Check.due("undo() of MOVED", x.undo(), 3);
        Check.due("PLACE as ahead of it", x.person(1, 0), 2);
        Check.due("PLACE of the other one", x.person(0, 0), 1);
        Check.due("undo() of MOVED again", x.undo(), 2);
        Check.due("PLACE of the other one as ahead of it", x.person(0, 0), 0);
        Check.due("undo() of DONE", x.undo(), 1);
        Check.due("nothing is DONE", x.count(4), 0);
        Check.due("undo() of a second", x.undo(), 0);
        Check.due("NOW as ahead of it", x.count(3), 0);
        Check.due("undo() of none", x.undo(), STATE);
    }

    private static void tenUndoneAtMost() {
        EchoesFirst x = Check.told(ONE);
        int[] known = {1, 2, 3, 4, 5, 6, 7, 8, 9, 10, 10, 10};
        for (int k = 0; k < known.length; k++) {
            x.second();
            Check.due("how many may be UNDONE of " + (k + 1), x.count(5), known[k]);
        }
        for (int k = 9; k >= 0; k--) {
            Check.due("undo()", x.undo(), k);
            Check.due("NOW", x.count(3), k + 2);
        }
        Check.due("undo() of an older one", x.undo(), STATE);
        Check.due("NOW, still", x.count(3), 2);
    }

    private static void theEleventhIsLost() {
        EchoesFirst x = Check.told("n 3;p 0 0 40 0;p 1 0 40 0;");
        x.moves(0, 2);
        x.moves(1, 0);
        x.makes(0, 0);
        for (int k = 0; k < 4; k++) {
            x.moves(1, 1);
            x.moves(1, 2);
        }
        Check.due("ten may be UNDONE", x.count(5), 10);
        for (int k = 9; k >= 0; k--) {
            Check.due("undo()", x.undo(), k);
        }
        Check.due("nothing is DONE", x.count(4), 0);
        Check.due("the second move is undone", x.person(1, 0), 1);
        Check.due("the first move is lost", x.person(0, 0), 2);
        Check.due("undo()", x.undo(), STATE);
        x.makes(1, 0);
        Check.due("one may be UNDONE", x.count(5), 1);
        Check.due("undo() of it", x.undo(), 0);
    }

    private static void refusedOnesAreNotUndone() {
        EchoesFirst x = Check.told("n 2;p 0 1 40 0;");
        x.makes(0, 0);
        x.makes(0, 8);
        x.makes(0, 1);
        x.moves(0, 0);
        x.moves(0, 2);
        x.back(0);
        Check.due("nothing may be UNDONE", x.count(5), 0);
        x.heard(1, 1, 1, 1);
        x.keep(0);
        x.mark(1, 1);
        x.back(0);
        x.forget();
        Check.due("nothing of all that may be UNDONE", x.undo(), STATE);
    }

    // ---- promise 18

    private static void doneNumbers() {
        int[] numbers = {-1, 0, 1, 10, LEAST, MOST};
        for (int i : numbers) {
            Edges.refused("done(" + i + ", 0) of none", Edges.told(ONE), x -> x.done(i, 0), BAD);
        }
        Edges.numbers("done(i, ..) of one", x -> {
            Check.tell(x, ONE);
            x.makes(0, 0);
        }, (x, i) -> x.done(i, 0), 0, 0);
        Edges.numbers("done(i, ..) of some", Edges::some, (x, i) -> x.done(i, 3), 0, 1);
        Edges.numbers("done(i, ..) of ten", Edges::full, (x, i) -> x.done(i, 1), 0, 9);
    }

    private static void doneWhat() {
        Edges.numbers("done(.. what) of some", Edges::some, (x, what) -> x.done(0, what), 0, 3);
        Edges.numbers("done(.. what) of ten", Edges::full, (x, what) -> x.done(9, what), 0, 3);
        Edges.refused("done() all wrong", Edges::full, x -> x.done(LEAST, MOST), BAD);
    }

    private static void doneLeastAndMost() {
        EchoesFirst x = Check.told("n 6;p0 0 0 0;p0 0 0 0;p0 0 0 0;p0 0 0 0;p0 0 0 0;p5 40 40 7;");
        x.makes(0, 0);
        Check.pass(x, 40);
        for (int k = 2; k <= 10; k++) {
            Check.due("makes()", x.makes(5, 7), k);
        }
        int[] least = {0, 0, 0, 0};
        int[] most = {5, 7, 40, 5};
        for (int what = 0; what < 4; what++) {
            Check.due("done(0, " + what + ")", x.done(0, what), least[what]);
            Check.due("done(9, " + what + ")", x.done(9, what), most[what]);
        }
    }

    // ---- promise 19

    private static void nowNumbers() {
        Edges.numbers("now(what) of nothing", Edges.nothing(), EchoesFirst::now, 0, 2);
        Edges.numbers("now(what) of some", Edges::some, EchoesFirst::now, 0, 2);
        Edges.numbers("now(what) of all", Edges::full, EchoesFirst::now, 0, 2);
        Edges.numbers("now(what) at 60", Edges::late, EchoesFirst::now, 0, 2);
    }

    private static void nowIs(String told, Edges.Script script, int due, int past, int lies) {
        Edges.due("DUE of " + told, script, x -> x.now(0), due);
        Edges.due("PAST of " + told, script, x -> x.now(1), past);
        Edges.due("LIES of " + told, script, x -> x.now(2), lies);
    }

    private static void nowOfNothing() {
        nowIs("nothing", Edges.nothing(), 0, 0, 0);
        nowIs("no LOG", x -> {
            Edges.full(x);
            x.forget();
        }, 0, 0, 0);
        nowIs("a LOG and nobody", x -> Check.log(x, 40, 0, 0, 1), 1, 1, 0);
    }

    private static void dueOfNoneAndAll() {
        Edges.Script eight = x -> {
            Check.tell(x, "n 2;f 0 0 0;p 0 0 40 0;");
            for (int k = 0; k < 8; k++) {
                Check.log(x, k, 0, 0, 1);
            }
        };
        nowIs("eight", eight, 255, 0, 0);
        nowIs("eight that are made", x -> {
            eight.on(x);
            for (int k = 0; k < 8; k++) {
                x.makes(0, 0);
                x.second();
            }
        }, 0, 0, 0);
        nowIs("seven of eight that are made", x -> {
            eight.on(x);
            for (int k = 0; k < 7; k++) {
                x.makes(0, 0);
                x.second();
            }
            x.second();
        }, 128, 128, 0);
    }

    private static void dueOfStillOnes() {
        nowIs("STILL ones alone", x -> {
            Check.tell(x, ONE);
            Check.log(x, 0, 0, 0, 0);
            Check.log(x, 40, 0, 0, 0);
        }, 0, 0, 0);
        nowIs("a STILL one that is made", x -> {
            Check.tell(x, ONE);
            Check.log(x, 0, 0, 0, 0);
            x.second();
            x.makes(0, 0);
        }, 0, 0, 1);
    }

    private static void dueFromWhereItWasMade() {
        Edges.Script made = x -> {
            Check.tell(x, "n 3;f 0 1 4;f 1 2 2;p 0 0 40 0;");
            Check.pass(x, 6);
            x.makes(0, 0);
            x.moves(0, 2);
            Check.log(x, 2, 1, 0, 1);
            Check.log(x, 4, 1, 0, 1);
        };
        nowIs("what was made at PLACE 0", made, 2, 0, 0);
        nowIs("what was made at PLACE 0, then at PLACE 2", x -> {
            made.on(x);
            x.makes(0, 0);
        }, 0, 0, 0);
    }

    private static void dueJustSo() {
        Edges.Script made = x -> {
            Check.tell(x, "n 2;f 0 1 4;p 0 0 40 0 1;");
            Check.pass(x, 10);
            x.makes(0, 0);
            int[][] heard = {{6, 1, 0}, {5, 1, 0}, {7, 1, 0}, {6, 1, 1}, {9, 0, 0}, {6, 0, 0}, {10, 0, 0}, {10, 1, 0}};
            for (int[] one : heard) {
                Check.log(x, one[0], one[1], one[2], 1);
            }
        };
        Edges.due("DUE is what is not heard just so", made, x -> x.now(0), 255 - 1 - 16);
    }

    private static void pastIsBehindNow() {
        for (int now = 0; now <= 60; now++) {
            int past = (now > 5 ? 1 : 0) + (now > 30 ? 2 : 0) + (now > 40 ? 4 : 0);
            nowIs("NOW " + now, x -> {
                Check.tell(x, "n 2;f 0 1 4;p 0 0 40 0;p 1 30 30 1;");
                Check.log(x, 1, 1, 0, 1);
                Check.log(x, 29, 1, 1, 1);
                Check.log(x, 36, 1, 0, 1);
            }, now, 7, past, 0);
        }
    }

    private static void nowIs(String told, Edges.Script script, int seconds, int due, int past, int lies) {
        nowIs(told, x -> {
            script.on(x);
            Check.pass(x, seconds);
        }, due, past, lies);
    }

    private static void pastByDeedsThatCanBe() {
        Edges.Script two = x -> {
            Check.tell(x, "n 3;f 0 1 4;f 0 2 9;f 1 2 3;p 0 0 40 0;p 1 0 40 0;");
            Check.log(x, 20, 1, 0, 1);
        };
        nowIs("two who can", two, 21, 1, 0, 0);
        nowIs("one who can yet", two, 22, 1, 0, 0);
        nowIs("none who can", two, 25, 1, 1, 0);
        nowIs("one who can by a deed that can't be", x -> {
            two.on(x);
            Check.log(x, 15, 2, 0, 0);
        }, 22, 1, 1, 0);
        nowIs("one who can, whatever is STILL else", x -> {
            two.on(x);
            Check.log(x, 18, 2, 0, 0);
        }, 22, 1, 0, 0);
        nowIs("none, whatever NOW is", x -> {
            two.on(x);
            Check.log(x, 15, 2, 0, 0);
            Check.log(x, 18, 2, 0, 0);
        }, 0, 1, 1, 0);
    }

    private static void pastOfNoneAndAll() {
        Edges.Script eight = x -> {
            Check.tell(x, "n 2;f 0 0 0;p 0 0 40 0;");
            for (int k = 0; k < 8; k++) {
                Check.log(x, 33 + k, 0, 0, 1);
            }
        };
        nowIs("eight at 33", eight, 33, 255, 0, 0);
        nowIs("eight at 40", eight, 40, 255, 127, 0);
        nowIs("eight at 41", eight, 41, 255, 255, 0);
    }

    private static Edges.Script tenMade(int still) {
        return x -> {
            Check.tell(x, "n 2;f 0 0 0;p 0 0 40 0 1;");
            for (int k = 0; k < 10; k++) {
                x.makes(0, k == 0 || k == 9 ? 0 : 1);
            }
            for (int k = 0; k < 2; k++) {
                Check.log(x, 0, 0, k, (still >> k & 1) == 1 ? 0 : 1);
            }
        };
    }

    private static void liesOfNoneAndAll() {
        nowIs("ten that are HEARD", tenMade(0), 0, 0, 0);
        nowIs("the first and the tenth STILL", tenMade(1), 0, 0, 513);
        nowIs("all between STILL", tenMade(2), 0, 0, 510);
        nowIs("ten that are STILL", tenMade(3), 0, 0, 1023);
    }

    private static void liesFromWhereTheyWereMade() {
        Edges.Script moved = x -> {
            Check.tell(x, "n 3;f 0 1 4;f 1 2 2;p 0 0 40 0;");
            Check.pass(x, 6);
            x.makes(0, 0);
            x.moves(0, 2);
            x.makes(0, 0);
        };
        nowIs("STILL of what was made at PLACE 0", x -> {
            moved.on(x);
            Check.log(x, 2, 1, 0, 0);
        }, 0, 0, 1);
        nowIs("STILL of what was made at PLACE 2", x -> {
            moved.on(x);
            Check.log(x, 4, 1, 0, 0);
        }, 0, 0, 2);
        nowIs("STILL a second later", x -> {
            moved.on(x);
            Check.log(x, 3, 1, 0, 0);
        }, 0, 0, 0);
        nowIs("both STILL, one being undone", x -> {
            moved.on(x);
            Check.log(x, 2, 1, 0, 0);
            Check.log(x, 4, 1, 0, 0);
            x.undo();
        }, 0, 0, 1);
    }
}
