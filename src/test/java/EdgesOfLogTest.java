/** The edges that the document names for promises 7 to 13: THE LOG, whose each can be, the fewest deeds. */
public final class EdgesOfLogTest {
    private static final int BAD = Edges.BAD, FULL = Edges.FULL, NONE = Edges.NONE, NOT_SO_MANY = Edges.NOT_SO_MANY;
    private static final int MOST = Edges.MOST, LEAST = Edges.LEAST;
    private static final String SIX_ALIKE = "n 2;p0 0 40 0;p0 0 40 0;p0 0 40 0;p0 0 40 0;p0 0 40 0;p0 0 40 0;";

    public static void main(String[] args) {
        heardSeconds();
        heardPlaces();
        heardSounds();
        heardOrStill();
        eightHeardAtMost();
        badIsAheadOfFull();
        theNinthIsNotKept();
        theSameIsHeardAgain();
        forgetOfNone();
        forgetOfEight();
        forgetLeavesAllElse();
        whoNumbers();
        whoOfStillOnes();
        whoIsThereFromAndTo();
        whoInTheFirstAndLastSecond();
        whoOfAllSix();
        whoIsHeardJustSo();
        whoByDeedsThatCanBe();
        nobodyOfNone();
        nobodyOfStillOnes();
        nobodyFirstAndLast();
        deedsNumbers();
        deedsOfNothingHeard();
        deedsOfNoSuchSet();
        oneDeedForAllEight();
        eightDeedsForAllEight();
        fewestIsNotTheGreediest();
        waysOfTheFewestAlone();
        mustOfAllAndOfNone();
        setsAnewWhenTheLogIsAnother();
        firstNumbers();
        firstOfNoSuchSet();
        firstLeastAndMostNumber();
        firstByRisingNumbers();
        firstOfSeveralSets();
        oddsOfPeople();
        oddsOfTheLog();
        oddsUpperAndLower();
        oddsOfNoSuchSet();
        oddsNaughtAndOne();
        oddsInLeastTerms();
        Check.end();
    }

    private static Edges.Script logged(String text, int[]... entries) {
        return x -> {
            Check.tell(x, text);
            for (int[] one : entries) {
                Check.log(x, one[0], one[1], one[2], one[3]);
            }
        };
    }

    private static int[] heard(int s, int place, int sound) {
        return new int[] {s, place, sound, 1};
    }

    private static int[] still(int s, int place, int sound) {
        return new int[] {s, place, sound, 0};
    }

    // ---- promises 7 and 8

    private static void heardSeconds() {
        Edges.numbers("heard(s, ..)", Edges.nothing(), (x, s) -> x.heard(s, 0, 0, 1), 0, 40);
        Edges.numbers("heard(s, ..) behind some", Edges::some, (x, s) -> x.heard(s, 2, 7, 0), 0, 40);
    }

    private static void heardPlaces() {
        Edges.numbers("heard(.. place ..) of two", Edges.told("n 2;"), (x, place) -> x.heard(0, place, 0, 1), 0, 1);
        Edges.numbers("heard(.. place ..) of four", Edges.nothing(), (x, place) -> x.heard(0, place, 0, 1), 0, 3);
        Edges.numbers("heard(.. place ..) of six", Edges.told("n 6;"), (x, place) -> x.heard(40, place, 7, 0), 0, 5);
    }

    private static void heardSounds() {
        Edges.numbers("heard(.. sound ..)", Edges.nothing(), (x, sound) -> x.heard(0, 0, sound, 1), 0, 7);
        Edges.numbers("heard(.. sound ..) behind some", Edges::some, (x, sound) -> x.heard(40, 2, sound, 0), 0, 7);
    }

    private static void heardOrStill() {
        Edges.numbers("heard(.. is)", Edges.nothing(), (x, is) -> x.heard(0, 0, 0, is), 0, 1);
        Edges.numbers("heard(.. is) behind some", Edges::some, (x, is) -> x.heard(40, 2, 7, is), 0, 1);
        Edges.refused("heard() all wrong", Edges::some, x -> x.heard(LEAST, MOST, LEAST, MOST), BAD);
    }

    private static void eightHeardAtMost() {
        EchoesFirst x = new EchoesFirst();
        for (int k = 1; k <= 8; k++) {
            Check.due("heard(), the " + k + "th", x.heard(k, 0, 0, k & 1), k);
        }
        Check.due("heard(), the ninth", x.heard(9, 0, 0, 1), FULL);
        Edges.refused("heard() of a full LOG", Edges::full, y -> y.heard(0, 0, 0, 1), FULL);
        Edges.refused("STILL of a full LOG", Edges::full, y -> y.heard(40, 5, 7, 0), FULL);
    }

    private static void badIsAheadOfFull() {
        Edges.refused("second 41 of a full LOG", Edges::full, x -> x.heard(41, 0, 0, 1), BAD);
        Edges.refused("second -1 of a full LOG", Edges::full, x -> x.heard(-1, 0, 0, 1), BAD);
        Edges.refused("PLACE 6 of a full LOG", Edges::full, x -> x.heard(0, 6, 0, 1), BAD);
        Edges.refused("PLACE -1 of a full LOG", Edges::full, x -> x.heard(0, -1, 0, 1), BAD);
        Edges.refused("SOUND 8 of a full LOG", Edges::full, x -> x.heard(0, 0, 8, 1), BAD);
        Edges.refused("SOUND -1 of a full LOG", Edges::full, x -> x.heard(0, 0, -1, 1), BAD);
        Edges.refused("is 2 of a full LOG", Edges::full, x -> x.heard(0, 0, 0, 2), BAD);
        Edges.refused("is -1 of a full LOG", Edges::full, x -> x.heard(0, 0, 0, -1), BAD);
    }

    private static void theNinthIsNotKept() {
        EchoesFirst x = Edges.after(Edges::full);
        x.heard(0, 0, 0, 1);
        Check.due("who(8)", x.who(8), BAD);
        Check.due("forget() has eight", x.forget(), 8);
        Check.due("the next is the first", x.heard(0, 0, 0, 1), 1);
    }

    private static void theSameIsHeardAgain() {
        EchoesFirst x = Edges.after(logged(SIX_ALIKE, heard(5, 0, 0)));
        Check.due("heard() the same again", x.heard(5, 0, 0, 1), 2);
        Check.due("and STILL, too", x.heard(5, 0, 0, 0), 3);
        Check.due("nobody can any more", x.who(0) + x.who(1) + x.who(2), 0);
    }

    private static void forgetOfNone() {
        EchoesFirst x = new EchoesFirst();
        Check.due("forget() of none", x.forget(), 0);
        Check.due("forget() of none again", x.forget(), 0);
        x.heard(41, 0, 0, 1);
        Check.due("forget() behind a refused one", x.forget(), 0);
        x.heard(40, 0, 0, 0);
        Check.due("forget() of one", x.forget(), 1);
        Check.due("forget() again", x.forget(), 0);
    }

    private static void forgetOfEight() {
        EchoesFirst x = Edges.after(Edges::full);
        Check.due("forget() of eight", x.forget(), 8);
        Check.due("count(2)", x.count(2), 0);
        Check.due("DEEDS of nothing", x.deeds(0) * 10 + x.deeds(1), 1);
        Check.due("LIES of nothing", x.now(2), 0);
        Check.due("nobody() of nothing", x.nobody(), NONE);
        Check.due("FALL of nothing", x.mark(2, 0), 0);
        for (int k = 1; k <= 8; k++) {
            Check.due("heard() again", x.heard(0, 0, 0, 1), k);
        }
        Check.due("heard(), a ninth again", x.heard(0, 0, 0, 1), FULL);
    }

    private static void forgetLeavesAllElse() {
        EchoesFirst x = Edges.after(Edges::some);
        EchoesFirst y = Edges.after(Edges::some);
        x.forget();
        Check.log(x, 5, 1, 1, 1);
        Check.log(x, 6, 1, 2, 0);
        Check.log(x, 3, 0, 2, 1);
        Check.same("forget() leaves all else", Check.face(x), Check.face(y));
        Check.due("forget() can't be UNDONE", x.undo(), y.undo());
        Check.due("THE LOG when something is undone", x.count(2), 3);
        Check.due("IMAGES stay", x.back(0), y.back(0));
        Check.due("THE LOG when an IMAGE is back", x.count(2), 3);
    }

    // ---- promise 9

    private static void whoNumbers() {
        Edges.numbers("who(i) of one", logged("", heard(0, 0, 0)), EchoesFirst::who, 0, 0);
        Edges.numbers("who(i) of three", Edges::some, EchoesFirst::who, 0, 2);
        Edges.numbers("who(i) of eight", Edges::full, EchoesFirst::who, 0, 7);
        int[] numbers = {-1, 0, 1, 8, LEAST, MOST};
        for (int i : numbers) {
            Edges.refused("who(" + i + ") of none", Edges.told(SIX_ALIKE), x -> x.who(i), BAD);
        }
    }

    private static void whoOfStillOnes() {
        EchoesFirst x = Edges.after(logged(SIX_ALIKE, still(9, 0, 0), heard(10, 0, 0), still(3, 0, 0)));
        Check.due("who() of a STILL one", x.who(0), 0);
        Check.due("who() of the one HEARD", x.who(1), 63);
        Check.due("who() of another STILL one", x.who(2), 0);
    }

    private static void whoIsThereFromAndTo() {
        EchoesFirst x = Edges.after(logged("n 2;f 0 1 2;p 0 5 9 3;",
            heard(2, 1, 3), heard(3, 1, 3), heard(7, 1, 3), heard(8, 1, 3)));
        Check.due("ahead of FROM", x.who(0), 0);
        Check.due("in FROM", x.who(1), 1);
        Check.due("in TO", x.who(2), 1);
        Check.due("behind TO", x.who(3), 0);
        EchoesFirst y = Edges.after(logged("n 2;f 0 1 2;p 0 7 7 3;", heard(4, 1, 3), heard(5, 1, 3), heard(6, 1, 3)));
        Check.due("FROM and TO one second", y.who(0) * 100 + y.who(1) * 10 + y.who(2), 10);
    }

    private static void whoInTheFirstAndLastSecond() {
        EchoesFirst x = Edges.after(logged("n 2;f 0 0 0;f 0 1 9;p 0 0 40 3;",
            heard(0, 0, 3), heard(40, 0, 3), heard(0, 1, 3), heard(31, 1, 3), heard(32, 1, 3), heard(40, 1, 3)));
        int[] due = {1, 1, 1, 1, 0, 0};
        for (int i = 0; i < due.length; i++) {
            Check.due("who(" + i + ") at the ends", x.who(i), due[i]);
        }
    }

    private static void whoOfAllSix() {
        Edges.due("who() of six", logged(SIX_ALIKE, heard(9, 0, 0)), x -> x.who(0), 63);
        Edges.due("who() of nobody", logged("n 2;", heard(9, 0, 0)), x -> x.who(0), 0);
        Edges.due("who() of the sixth alone", logged(SIX_ALIKE.replaceFirst("0;$", "7;"), heard(9, 0, 7)),
            x -> x.who(0), 32);
    }

    private static void whoIsHeardJustSo() {
        EchoesFirst x = Edges.after(logged("n 3;f 0 1 4;f 0 2 4;p 0 10 10 3;", heard(6, 1, 3), heard(6, 2, 3),
            heard(6, 1, 2), heard(5, 1, 3), heard(7, 1, 3), heard(9, 0, 3), heard(6, 0, 3), heard(10, 0, 3)));
        int[] due = {1, 1, 0, 0, 0, 1, 0, 0};
        for (int i = 0; i < due.length; i++) {
            Check.due("who(" + i + ") of one deed that can be", x.who(i), due[i]);
        }
    }

    private static void whoByDeedsThatCanBe() {
        String text = "n 3;f 0 1 4;f 0 2 7;p 0 10 10 3;";
        Edges.due("STILL elsewhere", logged(text, heard(6, 1, 3), still(3, 2, 3)), x -> x.who(0), 0);
        Edges.due("STILL here", logged(text, still(9, 0, 3), heard(6, 1, 3)), x -> x.who(1), 0);
        Edges.due("STILL of the same", logged(text, heard(6, 1, 3), still(6, 1, 3)), x -> x.who(0), 0);
        Edges.due("STILL of another SOUND", logged(text, heard(6, 1, 3), still(3, 2, 2)), x -> x.who(0), 1);
        Edges.due("STILL a second ahead", logged(text, heard(6, 1, 3), still(2, 2, 3)), x -> x.who(0), 1);
        Edges.due("STILL a second later", logged(text, heard(6, 1, 3), still(4, 2, 3)), x -> x.who(0), 1);
        Edges.due("HEARD elsewhere", logged(text, heard(6, 1, 3), heard(3, 2, 3)), x -> x.who(0), 1);
    }

    // ---- promise 10

    private static void nobodyOfNone() {
        Edges.due("nobody() with nobody there", Edges.nothing(), EchoesFirst::nobody, NONE);
        Edges.due("nobody() with six there", Edges.told(SIX_ALIKE), EchoesFirst::nobody, NONE);
        Edges.due("nobody() of one made in second 0", logged("n 2;f 0 0 0;p 0 0 0 0;", heard(0, 0, 0)),
            EchoesFirst::nobody, NONE);
        Edges.due("nobody() when all are of somebody", logged(SIX_ALIKE, heard(0, 0, 0), heard(39, 0, 0)),
            EchoesFirst::nobody, NONE);
    }

    private static void nobodyOfStillOnes() {
        Edges.due("nobody() of STILL ones alone", logged("", still(0, 0, 0), still(40, 3, 7)), EchoesFirst::nobody,
            NONE);
        Edges.due("nobody() behind STILL ones", logged("", still(0, 0, 0), still(9, 3, 7), heard(9, 3, 6)),
            EchoesFirst::nobody, 2);
    }

    private static void nobodyFirstAndLast() {
        Edges.due("nobody() of what is forgotten", x -> {
            Check.log(x, 0, 0, 0, 1);
            x.forget();
        }, EchoesFirst::nobody, NONE);
        Edges.due("nobody() of the first", logged("", heard(0, 0, 0)), EchoesFirst::nobody, 0);
        Edges.due("nobody() of two", logged("", heard(0, 0, 0), heard(1, 0, 0)), EchoesFirst::nobody, 0);
        Edges.due("nobody() of the eighth", logged(SIX_ALIKE, heard(0, 0, 0), heard(1, 0, 0), heard(2, 0, 0),
            heard(3, 0, 0), still(40, 0, 0), heard(5, 0, 0), heard(6, 0, 0), heard(40, 0, 0)), EchoesFirst::nobody, 7);
    }

    // ---- promise 11

    private static void deedsNumbers() {
        Edges.numbers("deeds(what) of nothing", Edges.nothing(), EchoesFirst::deeds, 0, 2);
        Edges.numbers("deeds(what) of some", Edges::some, EchoesFirst::deeds, 0, 2);
        Edges.numbers("deeds(what) of eight", Edges::full, EchoesFirst::deeds, 0, 2);
        Edges.numbers("deeds(what) of no such set", logged("", heard(0, 0, 0)), EchoesFirst::deeds, 0, 2);
    }

    private static void setsAre(String told, Edges.Script script, int fewest, int ways, int must) {
        Edges.due("DEEDS of " + told, script, x -> x.deeds(0), fewest);
        Edges.due("WAYS of " + told, script, x -> x.deeds(1), ways);
        Edges.due("MUST of " + told, script, x -> x.deeds(2), must);
    }

    private static void deedsOfNothingHeard() {
        setsAre("nothing", Edges.nothing(), 0, 1, 0);
        setsAre("nothing with six there", Edges.told(SIX_ALIKE), 0, 1, 0);
        setsAre("STILL ones alone", logged(SIX_ALIKE, still(9, 0, 0), still(0, 1, 7)), 0, 1, 0);
    }

    private static void deedsOfNoSuchSet() {
        setsAre("what nobody can", logged(SIX_ALIKE, heard(9, 0, 1)), NONE, NONE, NONE);
        setsAre("what is STILL, too", logged(SIX_ALIKE, heard(9, 0, 0), still(9, 0, 0)), NONE, NONE, NONE);
        setsAre("the last of two", logged(SIX_ALIKE, heard(9, 0, 0), heard(40, 0, 0)), NONE, NONE, NONE);
        setsAre("the first of two", logged(SIX_ALIKE, heard(40, 0, 0), heard(9, 0, 0)), NONE, NONE, NONE);
    }

    private static void oneDeedForAllEight() {
        setsAre("eight by one deed", logged("n 6;p 5 40 40 7;", heard(37, 0, 7), heard(37, 1, 7), heard(37, 2, 7),
            heard(37, 3, 7), heard(37, 4, 7), heard(39, 5, 7), heard(37, 0, 7), heard(39, 5, 7)), 1, 1, 1);
    }

    private static void eightDeedsForAllEight() {
        int[][] eight = new int[8][];
        for (int k = 0; k < 8; k++) {
            eight[k] = heard(5 * k, 0, 0);
        }
        setsAre("eight by six people", logged(SIX_ALIKE, eight), 8, 1679616, 0);
        setsAre("eight by one", logged("n 2;p 0 0 40 0;", eight), 8, 1, 1);
    }

    /** The deed that makes most of it is in no set of two. */
    private static void fewestIsNotTheGreediest() {
        setsAre("six at six PLACES", logged("n 6;f0 0 2;f0 1 2;f0 2 2;f0 3 2;f0 4 5;f0 5 6;f1 1 2;f1 4 2;f2 2 2;"
            + "f2 3 2;f2 4 9;f2 5 2;f1 2 3;f1 3 4;f1 5 5;p0 0 40 0;p1 0 40 0;p2 0 40 0;",
            heard(10, 0, 0), heard(10, 1, 0), heard(10, 2, 0), heard(10, 3, 0), heard(10, 4, 0), heard(10, 5, 0)), 2,
            1, 6);
    }

    private static void waysOfTheFewestAlone() {
        Edges.Script script = logged("n 3;f 0 1 2;p 0 0 40 0;p 1 0 40 0;p 0 10 10 0;", heard(9, 0, 0), heard(8, 1, 0));
        setsAre("two by one deed of two people", script, 1, 2, 0);
        setsAre("one more for the first", logged("n 3;f 0 1 2;p 0 0 40 0;p 1 0 40 0;p 0 10 10 0;",
            heard(20, 0, 0), heard(19, 0, 0), heard(18, 1, 0)), 2, 2, 1);
    }

    private static void mustOfAllAndOfNone() {
        setsAre("six SOUNDS of six", logged("n 2;p0 0 40 0;p0 0 40 1;p0 0 40 2;p0 0 40 3;p0 0 40 4;p0 0 40 5;",
            heard(0, 0, 0), heard(0, 0, 1), heard(0, 0, 2), heard(0, 0, 3), heard(0, 0, 4), heard(0, 0, 5)), 6, 1, 63);
        setsAre("one SOUND of two", logged("n 2;p0 0 40 0;p0 0 40 0;", heard(0, 0, 0)), 1, 2, 0);
        setsAre("one SOUND of the sixth", logged(SIX_ALIKE.replaceFirst("0;$", "7;"), heard(9, 0, 7)), 1, 1, 32);
    }

    private static void setsAnewWhenTheLogIsAnother() {
        EchoesFirst x = Edges.after(logged("p0 0 40 0;p1 0 40 0 1;", heard(9, 0, 0), heard(20, 0, 0)));
        Check.due("DEEDS of two", x.deeds(0) * 10 + x.deeds(1), 24);
        x.forget();
        Check.due("DEEDS of nothing", x.deeds(0) * 10 + x.deeds(1), 1);
        Check.log(x, 9, 0, 1, 1);
        Check.due("DEEDS of another one", x.deeds(0) * 10 + x.deeds(1), 11);
        Check.due("first(0) of another one", x.first(0), 10112);
        Check.due("MUST of another one", x.deeds(2), 2);
        Check.due("odds(0, ..) of another one", x.odds(0, 0, 0) * 10 + x.odds(0, 0, 1), 1);
        Check.log(x, 9, 0, 1, 0);
        Check.due("no such set any more", x.deeds(0), NONE);
        x.forget();
        Check.due("DEEDS of nothing again", x.deeds(0) * 10 + x.deeds(1), 1);
    }

    // ---- promise 12

    private static void firstNumbers() {
        Edges.numbers("first(i) of some", Edges::some, EchoesFirst::first, 0, MOST);
        Edges.numbers("first(i) of nothing", Edges.nothing(), EchoesFirst::first, 0, MOST);
        Edges.due("first(0) of nothing", Edges.nothing(), x -> x.first(0), NOT_SO_MANY);
        Edges.due("first(most) of nothing", Edges.nothing(), x -> x.first(MOST), NOT_SO_MANY);
        Edges.Script eight = logged("n 2;p 0 0 40 0;", heard(0, 0, 0), heard(5, 0, 0), heard(10, 0, 0), heard(15, 0, 0),
            heard(20, 0, 0), heard(25, 0, 0), heard(30, 0, 0), heard(35, 0, 0));
        for (int i = 0; i < 8; i++) {
            int place = i;
            Edges.due("first(" + i + ") of eight", eight, x -> x.first(place), 1 + 5 * i);
        }
        int[] beyond = {8, 9, 32, 64, 256, 264, MOST - 1, MOST};
        for (int i : beyond) {
            Edges.due("first(" + i + ") of eight", eight, x -> x.first(i), NOT_SO_MANY);
        }
    }

    private static void firstOfNoSuchSet() {
        Edges.Script none = logged(SIX_ALIKE, heard(9, 0, 1), heard(9, 0, 0));
        int[] numbers = {0, 1, 7, 8, MOST};
        for (int i : numbers) {
            Edges.due("first(" + i + ") of no such set", none, x -> x.first(i), NONE);
        }
        Edges.refused("first(-1) of no such set", none, x -> x.first(-1), BAD);
        Edges.refused("first(least) of no such set", none, x -> x.first(LEAST), BAD);
    }

    private static void firstLeastAndMostNumber() {
        Edges.due("the least number", logged("n 2;f 0 0 0;p 0 0 0 0;", heard(0, 0, 0)), x -> x.first(0), 0);
        Edges.due("the greatest number", logged(SIX_ALIKE.replaceFirst("0;$", "7;"), heard(39, 0, 7)), x -> x.first(0),
            50740);
    }

    private static void firstByRisingNumbers() {
        EchoesFirst x = Edges.after(logged("n 2;f0 0 0;p0 0 40 1 7;p0 0 40 2;p0 0 40 0;",
            heard(3, 0, 0), heard(9, 0, 7), heard(30, 0, 1), heard(9, 0, 1), heard(0, 0, 2)));
        int[] due = {109, 130, 709, 10200, 20003};
        for (int i = 0; i < due.length; i++) {
            Check.due("first(" + i + ") rises", x.first(i), due[i]);
        }
        Check.due("first(5)", x.first(5), NOT_SO_MANY);
    }

    /** The first number counts ahead of all others; a deed of no set of the fewest does not. */
    private static void firstOfSeveralSets() {
        Edges.Script four = logged("p0 0 40 0;p1 0 40 0;p2 0 40 0;p3 0 40 0;p0 0 40 0;p1 0 40 0;",
            heard(9, 0, 0), heard(9, 1, 0), heard(9, 2, 0), heard(9, 3, 0));
        Edges.due("first(0) of 23 sets", four, x -> x.first(0), 10);
        Edges.due("first(1) of 23 sets", four, x -> x.first(1), 12);
        Edges.due("first(2) of 23 sets", four, x -> x.first(2), NOT_SO_MANY);
        Edges.Script one = logged("n 3;f 0 1 4;p 0 0 40 0;p 1 0 40 0;p 0 0 40 0;", heard(9, 0, 0), heard(12, 1, 0));
        Edges.due("first(0) of one set of one", one, x -> x.first(0), 10013);
        Edges.due("first(1) of one set of one", one, x -> x.first(1), NOT_SO_MANY);
    }

    // ---- promise 13

    private static void oddsOfPeople() {
        Edges.numbers("odds(p, ..) of some", Edges::some, (x, p) -> x.odds(p, 0, 0), 0, 2);
        Edges.numbers("odds(p, ..) of six", logged(SIX_ALIKE, heard(0, 0, 0)), (x, p) -> x.odds(p, 0, 1), 0, 5);
        Edges.refused("odds(0, ..) of nobody", logged("", heard(0, 0, 0)), x -> x.odds(0, 0, 0), BAD);
    }

    private static void oddsOfTheLog() {
        Edges.numbers("odds(.. i ..) of one", logged(SIX_ALIKE, heard(0, 0, 0)), (x, i) -> x.odds(0, i, 0), 0, 0);
        Edges.numbers("odds(.. i ..) of two", logged(SIX_ALIKE, heard(0, 0, 0), heard(9, 0, 0)),
            (x, i) -> x.odds(5, i, 1), 0, 1);
        Edges.Script stillFirst = logged(SIX_ALIKE, still(9, 0, 0), heard(9, 0, 1), heard(0, 0, 0));
        Edges.refused("odds() of a STILL one, upper", stillFirst, x -> x.odds(0, 0, 0), BAD);
        Edges.refused("odds() of a STILL one, lower", stillFirst, x -> x.odds(5, 0, 1), BAD);
        Edges.refused("odds() of a STILL one alone", logged(SIX_ALIKE, still(9, 0, 0)), x -> x.odds(0, 0, 0), BAD);
        Edges.refused("odds() of no LOG", Edges.told(SIX_ALIKE), x -> x.odds(0, 0, 0), BAD);
    }

    private static void oddsUpperAndLower() {
        Edges.numbers("odds(.. what)", Edges::some, (x, what) -> x.odds(0, 0, what), 0, 1);
        Edges.numbers("odds(.. what) of six", logged(SIX_ALIKE, heard(0, 0, 0)), (x, what) -> x.odds(5, 0, what), 0, 1);
        Edges.refused("odds() all wrong", Edges::some, x -> x.odds(LEAST, MOST, LEAST), BAD);
    }

    private static void oddsOfNoSuchSet() {
        Edges.Script none = logged(SIX_ALIKE, heard(9, 0, 0), heard(9, 0, 1), still(4, 0, 0));
        for (int p = 0; p < 6; p++) {
            for (int k = 0; k < 4; k++) {
                int who = p;
                int asked = k;
                Edges.due("odds() of no such set", none, x -> x.odds(who, asked / 2, asked % 2), NONE);
            }
        }
        Edges.refused("a person too many of no such set", none, x -> x.odds(6, 0, 0), BAD);
        Edges.refused("person -1 of no such set", none, x -> x.odds(-1, 0, 0), BAD);
        Edges.refused("the third of no such set", none, x -> x.odds(0, 3, 0), BAD);
        Edges.refused("the one at -1 of no such set", none, x -> x.odds(0, -1, 0), BAD);
        Edges.refused("what 2 of no such set", none, x -> x.odds(0, 0, 2), BAD);
        Edges.refused("what -1 of no such set", none, x -> x.odds(0, 0, -1), BAD);
        Edges.refused("a STILL one of no such set", none, x -> x.odds(0, 2, 0), BAD);
    }

    private static void oddsAre(String told, Edges.Script script, int p, int upper, int lower) {
        Edges.due("upper of " + told, script, x -> x.odds(p, 0, 0), upper);
        Edges.due("lower of " + told, script, x -> x.odds(p, 0, 1), lower);
    }

    private static void oddsNaughtAndOne() {
        oddsAre("one who can't", logged("n 2;p0 0 40 0;p0 0 40 1;", heard(9, 0, 0)), 1, 0, 1);
        oddsAre("one who must", logged("n 2;p0 0 40 0;p0 0 40 1;", heard(9, 0, 0)), 0, 1, 1);
        Edges.Script shared = logged("n 3;f 0 1 4;p 0 0 40 0;p 1 0 40 0;p 0 0 40 0;", heard(9, 0, 0), heard(12, 1, 0));
        oddsAre("one who could, but not in so few", shared, 0, 0, 1);
        oddsAre("one who makes both", shared, 1, 1, 1);
        Edges.Script another = logged("n 2;p0 0 40 0;p0 0 40 0;p0 0 40 1;", heard(9, 0, 0), heard(9, 0, 1));
        oddsAre("one whose deed makes another one", another, 2, 0, 1);
    }

    private static void oddsInLeastTerms() {
        oddsAre("one in six", logged(SIX_ALIKE, heard(9, 0, 0)), 5, 1, 6);
        oddsAre("six in thirty-six", logged(SIX_ALIKE, heard(9, 0, 0), heard(8, 0, 0)), 0, 1, 6);
        oddsAre("two in four", logged("n 2;p0 0 40 0 1;p0 0 40 0 1;", heard(9, 0, 0), heard(9, 0, 1)), 0, 1, 2);
        Edges.Script four = logged("p0 0 40 0;p1 0 40 0;p2 0 40 0;p3 0 40 0;p0 0 40 0;p1 0 40 0;",
            heard(9, 0, 0), heard(9, 1, 0), heard(9, 2, 0), heard(9, 3, 0));
        oddsAre("two in twenty-three", four, 0, 2, 23);
        oddsAre("six in twenty-three", four, 1, 6, 23);
    }
}
