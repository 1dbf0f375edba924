/** The edges that the document names for promises 25 to 29: KINDS, IMAGES, how much there is, THE TRACE. */
public final class EdgesOfKindsTest {
    private static final int BAD = Edges.BAD, STATE = Edges.STATE, NO = Edges.NO;
    private static final int MOST = Edges.MOST, LEAST = Edges.LEAST;
    private static final long[] LEAVES = {1, 11, 101, 1011, 10101, 100001};
    private static final String SIX_ALIKE = "n 2;p0 0 40 0;p0 0 40 0;p0 0 40 0;p0 0 40 0;p0 0 40 0;p0 0 40 0;";

    public static void main(String[] args) {
        markKinds();
        markSounds();
        markIsNoWhereItIsRefused();
        markOfNothing();
        markOfPeople();
        markOfTheLog();
        markOfWhatIsDone();
        markOfNow();
        keepImages();
        keepAnswersNow();
        keepAgain();
        keepChangesNothing();
        backImages();
        backOfNone();
        badIsAheadOfState();
        backOfEachImage();
        backKeepsTheLogTheTextTheTrace();
        backOfWhatIsFull();
        backOfOtherThingsDone();
        backOfOtherMoves();
        imagesAreGoneWhenReadAnew();
        imagesStayBehindAFault();
        countNumbers();
        countsLeast();
        countsMost();
        traceAtFirst();
        traceOfEachKind();
        traceOfAllKindsTogether();
        traceOfWhatIsRefused();
        traceStays();
        traceOfManyCalls();
        Check.end();
    }

    // ---- promise 25

    private static void markKinds() {
        Edges.numbers("mark(kind, ..)", Edges.nothing(), (x, kind) -> x.mark(kind, 0), 0, 5, NO);
        Edges.numbers("mark(kind, ..) of some", Edges::some, (x, kind) -> x.mark(kind, 7), 0, 5, NO);
        Edges.numbers("mark(kind, ..) of six", Edges::full, (x, kind) -> x.mark(kind, 1), 0, 5, NO);
    }

    private static void markSounds() {
        for (int kind = 0; kind < 6; kind++) {
            int asked = kind;
            Edges.numbers("mark(" + kind + ", sound)", Edges::some, (x, sound) -> x.mark(asked, sound), 0, 7, NO);
        }
    }

    private static void markIsNoWhereItIsRefused() {
        Check.due("NO", EchoesFirst.NO, -1000000);
        Edges.refused("mark(6, 8)", Edges::full, x -> x.mark(6, 8), NO);
        Edges.refused("mark(-1, -1)", Edges::full, x -> x.mark(-1, -1), NO);
        Edges.refused("mark(most, least)", Edges::full, x -> x.mark(MOST, LEAST), NO);
        Edges.refused("mark(least, most)", Edges.nothing(), x -> x.mark(LEAST, MOST), NO);
    }

    private static void marks(String told, Edges.Script script, int sound, int... due) {
        for (int kind = 0; kind < due.length; kind++) {
            int asked = kind;
            Edges.due("mark(" + kind + ", " + sound + ") of " + told, script, x -> x.mark(asked, sound), due[kind]);
        }
    }

    private static void markOfNothing() {
        for (int sound = 0; sound < 8; sound++) {
            marks("nothing", Edges.nothing(), sound, sound, sound, sound, 2 * sound, sound, sound);
        }
    }

    private static void markOfPeople() {
        marks("six", Edges.told(SIX_ALIKE), 0, 0, 6, 0, 12, 0, 0);
        marks("six who can't", Edges.told(SIX_ALIKE), 7, 7, 7, 7, 14, 7, 7);
        marks("one of six", Edges.told(SIX_ALIKE.replaceFirst("0;$", "7;")), 7, 7, 8, 7, 16, 7, 7);
        marks("one who is nowhere", x -> {
            Check.tell(x, "p 0 0 0 3;");
            Check.pass(x, 1);
        }, 3, 3, 4, 3, 8, 3, 4);
    }

    private static void markOfTheLog() {
        Edges.Script eight = x -> {
            for (int k = 0; k < 8; k++) {
                Check.log(x, 0, 0, 0, 1);
            }
        };
        marks("eight HEARD", eight, 0, 0, 0, -8, 0, -8, 0);
        marks("eight HEARD of another SOUND", eight, 1, 1, 1, 1, 2, 1, 1);
        marks("one HEARD of each of two others", x -> {
            Check.log(x, 0, 0, 2, 1);
            Check.log(x, 0, 0, 4, 1);
        }, 3, 3, 3, 3, 6, 3, 3);
        marks("one HEARD, two STILL", x -> {
            Check.log(x, 0, 0, 5, 0);
            Check.log(x, 0, 0, 5, 1);
            Check.log(x, 1, 0, 5, 0);
        }, 5, 5, 5, 4, 10, 4, 5);
    }

    private static void markOfWhatIsDone() {
        Edges.Script ten = x -> {
            Check.tell(x, "p 0 0 40 0 1;");
            for (int k = 0; k < 10; k++) {
                x.makes(0, k < 7 ? 0 : 1);
            }
        };
        marks("seven of ten DONE", ten, 0, 0, 1, 0, 2, 7, 0);
        marks("three of ten DONE", ten, 1, 1, 2, 1, 4, 4, 1);
        marks("none of ten DONE", ten, 2, 2, 2, 2, 4, 2, 2);
        marks("two of nine DONE", x -> {
            ten.on(x);
            x.undo();
        }, 1, 1, 2, 1, 4, 3, 1);
        marks("HEARD twice, DONE seven times", x -> {
            ten.on(x);
            Check.log(x, 3, 3, 0, 1);
            Check.log(x, 3, 3, 0, 1);
        }, 0, 0, 1, -2, 2, 5, 0);
    }

    private static void markOfNow() {
        marks("NOW 60", x -> Check.pass(x, 60), 7, 7, 7, 7, 14, 7, 67);
        marks("NOW 59", x -> {
            Check.pass(x, 60);
            x.undo();
        }, 0, 0, 0, 0, 0, 0, 59);
    }

    // ---- promise 26

    private static void keepImages() {
        Edges.numbers("keep(image)", Edges.nothing(), EchoesFirst::keep, 0, 1);
        Edges.numbers("keep(image) of some", Edges::some, EchoesFirst::keep, 0, 1);
        Edges.numbers("keep(image) of all", Edges::full, EchoesFirst::keep, 0, 1);
    }

    private static void keepAnswersNow() {
        Edges.due("keep(0) at 0", Edges.nothing(), x -> x.keep(0), 0);
        Edges.due("keep(1) at 0", Edges.nothing(), x -> x.keep(1), 0);
        Edges.due("keep(0) at 60", Edges::late, x -> x.keep(0), 60);
        Edges.due("keep(1) at 60", Edges::late, x -> x.keep(1), 60);
        Edges.due("keep(1) at 5", Edges::some, x -> x.keep(1), 5);
    }

    private static void keepAgain() {
        EchoesFirst x = Edges.after(Edges::late);
        Check.due("back(0) as kept first", x.back(0), 0);
        x.second();
        Check.due("keep(0) again", x.keep(0), 1);
        x.undo();
        Check.due("back(0) as kept last", x.back(0), 1);
        Check.due("back(1) as kept", x.back(1), 60);
    }

    private static void keepChangesNothing() {
        EchoesFirst x = Edges.after(Edges::full);
        x.keep(0);
        Check.same("keep() changes nothing", Check.face(x), Check.face(Edges.after(Edges::full)));
        Check.due("keep() can't be UNDONE", x.undo(), 9);
        Check.due("it was the move", x.person(4, 0), 4);
    }

    // ---- promise 27

    private static void backImages() {
        Edges.numbers("back(image) of some", Edges::some, EchoesFirst::back, 0, 1);
        Edges.numbers("back(image) of all", Edges::full, EchoesFirst::back, 0, 1);
    }

    private static void backOfNone() {
        Edges.refused("back(0) of none", Edges.nothing(), x -> x.back(0), STATE);
        Edges.refused("back(1) of none", Edges.nothing(), x -> x.back(1), STATE);
        Edges.refused("back(1) when 0 is kept", x -> x.keep(0), x -> x.back(1), STATE);
        Edges.refused("back(0) when 1 is kept", x -> x.keep(1), x -> x.back(0), STATE);
        Edges.refused("back(0) when keep(2) was refused", x -> x.keep(2), x -> x.back(0), STATE);
    }

    private static void badIsAheadOfState() {
        int[] wrong = {-1, 2, 3, LEAST, MOST};
        for (int image : wrong) {
            Edges.refused("back(" + image + ") of none", Edges.nothing(), x -> x.back(image), BAD);
        }
    }

    private static void backOfEachImage() {
        EchoesFirst x = Check.told("n 3;p 0 0 40 0;p 1 0 40 1;");
        x.keep(0);
        x.makes(0, 0);
        x.moves(1, 2);
        x.second();
        x.keep(1);
        x.makes(1, 1);
        Check.due("back(0)", x.back(0), 0);
        Check.due("nothing DONE", x.count(4), 0);
        Check.due("PLACE of 1", x.person(1, 0), 1);
        Check.due("nothing to be UNDONE", x.undo(), STATE);
        Check.due("back(1)", x.back(1), 1);
        Check.due("one DONE", x.count(4), 1);
        Check.due("PLACE of 1 as kept", x.person(1, 0), 2);
        Check.due("three may be UNDONE", x.undo(), 2);
        Check.due("back(1) again", x.back(1), 1);
        Check.due("three may be UNDONE again", x.undo(), 2);
    }

    private static void backKeepsTheLogTheTextTheTrace() {
        EchoesFirst x = Edges.after(Edges::some);
        x.back(0);
        Check.due("THE LOG stays", x.count(2), 3);
        Check.due("THE TEXT stays", x.count(6), 12);
        Check.due("THE TRACE stays", x.trace(), 1011);
        x.forget();
        x.clear();
        x.mark(0, 0);
        x.back(1);
        Check.due("no LOG comes back", x.count(2), 0);
        Check.due("no TEXT comes back", x.count(6), 0);
        Check.due("no TRACE is taken back", x.trace(), 1012);
    }

    private static void backOfWhatIsFull() {
        EchoesFirst x = Edges.after(Edges::full);
        EchoesFirst y = Edges.after(Edges::full);
        for (int k = 0; k < 10; k++) {
            x.undo();
        }
        x.moves(0, 5);
        Check.due("back(1) of what is full", x.back(1), 2);
        for (int i = 0; i < 10; i++) {
            for (int what = 0; what < 4; what++) {
                Check.due("done(" + i + ", " + what + ") is back", x.done(i, what), y.done(i, what));
            }
        }
        Check.due("an eleventh", x.makes(0, 0), Edges.FULL);
        for (int k = 9; k >= 0; k--) {
            Check.due("undo() of what is back", x.undo(), k);
            Check.due("things DONE then", x.count(4), k + 1);
        }
        Check.due("PLACES are back", x.person(0, 0) * 10 + x.person(4, 0), 4);
    }

    private static void backOfOtherThingsDone() {
        EchoesFirst x = Edges.after(Edges::full);
        EchoesFirst y = Edges.after(Edges::full);
        x.back(0);
        Check.pass(x, 9);
        x.moves(5, 1);
        for (int k = 0; k < 10; k++) {
            Check.due("makes() another thing", x.makes(5, 0), k + 1);
        }
        Check.due("back(1)", x.back(1), 2);
        for (int i = 0; i < 10; i++) {
            for (int what = 0; what < 4; what++) {
                Check.due("done(" + i + ", " + what + ") as kept", x.done(i, what), y.done(i, what));
            }
        }
    }

    private static void backOfOtherMoves() {
        EchoesFirst x = Check.told("n 4;p 0 0 40 0;p 1 0 40 0;p 2 0 40 0;");
        x.moves(0, 3);
        x.moves(2, 1);
        x.second();
        x.keep(0);
        x.back(0);
        Check.due("undo()", x.undo() + x.undo() + x.undo(), 3);
        x.second();
        x.moves(1, 2);
        x.moves(1, 0);
        x.moves(1, 3);
        Check.due("back(0)", x.back(0), 1);
        Check.due("undo() of a second", x.undo() * 10 + x.count(3), 20);
        Check.due("undo() of a move of 2", x.undo() * 10 + x.person(2, 0), 12);
        Check.due("undo() of a move of 0", x.undo() * 10 + x.person(0, 0), 0);
        Check.due("PLACE of 1 as kept", x.person(1, 0), 1);
        Check.due("undo() of none", x.undo(), STATE);
    }

    private static void imagesAreGoneWhenReadAnew() {
        for (int image = 0; image < 2; image++) {
            int asked = image;
            Edges.refused("back(" + image + ") when read anew", x -> {
                Edges.full(x);
                Check.tell(x, SIX_ALIKE);
            }, x -> x.back(asked), STATE);
            Edges.due("back(" + image + ") when kept anew", x -> {
                Edges.full(x);
                Check.tell(x, SIX_ALIKE);
                Check.pass(x, 1);
                x.keep(asked);
            }, x -> x.back(asked), 1);
        }
    }

    private static void imagesStayBehindAFault() {
        EchoesFirst x = Edges.after(Edges::some);
        x.type('!');
        Check.due("valley() with a FAULT", x.valley(), -22);
        Check.due("back(0)", x.back(0), 3);
        Check.due("back(1)", x.back(1), 5);
    }

    // ---- promise 28

    private static void countNumbers() {
        Edges.numbers("count(what)", Edges.nothing(), EchoesFirst::count, 0, 6);
        Edges.numbers("count(what) of some", Edges::some, EchoesFirst::count, 0, 6);
        Edges.numbers("count(what) of all", Edges::full, EchoesFirst::count, 0, 6);
    }

    private static void counts(String told, Edges.Script script, int... due) {
        for (int what = 0; what < due.length; what++) {
            int asked = what;
            Edges.due("count(" + what + ") of " + told, script, x -> x.count(asked), due[what]);
        }
    }

    private static void countsLeast() {
        counts("nothing", Edges.nothing(), 4, 0, 0, 0, 0, 0, 0);
        counts("two PLACES", Edges.told("n 2;"), 2, 0, 0, 0, 0, 0, 0);
        counts("one person", Edges.told("p 0 0 40 0;"), 4, 1, 0, 0, 0, 0, 0);
    }

    private static void countsMost() {
        counts("all", Edges::full, 6, 6, 8, 2, 10, 10, 200);
        counts("all at 60", Edges::late, 2, 2, 1, 60, 1, 10, 0);
        counts("some", Edges::some, 3, 3, 3, 5, 2, 9, 12);
    }

    // ---- promise 29

    private static void traceAtFirst() {
        Edges.due("trace() at first", Edges.nothing(), EchoesFirst::trace, 0);
        Edges.due("trace() of all but mark()", Edges::full, EchoesFirst::trace, 0);
    }

    private static void traceOfEachKind() {
        for (int kind = 0; kind < 6; kind++) {
            for (int sound = 0; sound < 8; sound++) {
                int asked = kind;
                int marked = sound;
                Edges.due("trace() of mark(" + kind + ", " + sound + ")", x -> {
                    Edges.full(x);
                    x.mark(asked, marked);
                }, EchoesFirst::trace, LEAVES[kind]);
            }
        }
    }

    private static void traceOfAllKindsTogether() {
        EchoesFirst x = new EchoesFirst();
        long all = 0;
        for (int k = 0; k < 36; k++) {
            int kind = k % 2 == 0 ? k % 6 : k / 6;
            x.mark(kind, k % 8);
            all += LEAVES[kind];
            Check.due("trace() of " + (k + 1) + " marks", x.trace(), all);
        }
    }

    private static void traceOfWhatIsRefused() {
        EchoesFirst x = new EchoesFirst();
        int[] wrong = {-1, 8, LEAST, MOST};
        for (int number : wrong) {
            x.mark(number, 0);
            x.mark(0, number);
            x.mark(3, number);
            x.mark(4, number);
            x.mark(5, number);
        }
        Check.due("trace() of what is refused", x.trace(), 0);
    }

    private static void traceStays() {
        EchoesFirst x = Edges.after(Edges::some);
        Check.due("trace()", x.trace(), 1011);
        Check.due("trace() again", x.trace(), 1011);
        x.forget();
        x.undo();
        x.back(0);
        x.valley();
        x.clear();
        Check.due("trace() of all calls ever", x.trace(), 1011);
        x.mark(4, 0);
        Check.due("trace() together", x.trace(), 11112);
    }

    private static void traceOfManyCalls() {
        EchoesFirst x = new EchoesFirst();
        for (int k = 0; k < 510; k++) {
            x.mark(5, 7);
        }
        Check.due("trace() of 510 calls", x.trace(), 51000510L);
    }
}
