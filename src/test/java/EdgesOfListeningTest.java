/** The edges that the document names for promises 20 to 24: listening, playing. */
public final class EdgesOfListeningTest {
    private static final int BAD = Edges.BAD, NONE = Edges.NONE;
    private static final int MOST = Edges.MOST, LEAST = Edges.LEAST;
    private static final String SIX_ALIKE = "n 2;p0 0 40 0;p0 0 40 0;p0 0 40 0;p0 0 40 0;p0 0 40 0;p0 0 40 0;";

    public static void main(String[] args) {
        sitPlaces();
        sitWhereItIsFarthest();
        sitAtTheLeastOfSeveral();
        sitWhereItIsMade();
        beginPeople();
        beginSounds();
        beginPlaces();
        beginSeconds();
        beginFromAndTo();
        beginOfWhatHeCannot();
        beginWhateverIsKnown();
        togetherSounds();
        togetherPlaces();
        togetherPeople();
        togetherFirstAndLastSecond();
        togetherOfOneWhoCannot();
        togetherOfThoseNeverThere();
        playedRows();
        playedFigures();
        playedPlaces();
        playedSeconds();
        playedNoSounds();
        playedTheFirstTheHighest();
        playedBeyondForty();
        playedByMost();
        sureNumbers();
        sureOfNobody();
        sureFromAndTo();
        sureByDeedsThatCanBe();
        sureWhereHeIs();
        Check.end();
    }

    // ---- promise 20

    private static void sitPlaces() {
        Edges.numbers("sit(place) of two", Edges.told("n 2;"), EchoesFirst::sit, 0, 1);
        Edges.numbers("sit(place) of four", Edges.nothing(), EchoesFirst::sit, 0, 3);
        Edges.numbers("sit(place) of six", Edges::full, EchoesFirst::sit, 0, 5);
    }

    private static void sitWhereItIsFarthest() {
        for (int place = 0; place < 6; place++) {
            for (int best = 0; best < 6; best++) {
                int at = place;
                Edges.due("sit(" + place + ") when " + best + " is farthest",
                    Edges.told("n 6;f " + place + " " + best + " 4;"), x -> x.sit(at), best);
            }
        }
    }

    private static void sitAtTheLeastOfSeveral() {
        Edges.due("sit(5) of equals", Edges.told("n 6;f 5 5 3;"), x -> x.sit(5), 0);
        Edges.due("sit(0) of equals", Edges.told("n 6;f 0 0 3;"), x -> x.sit(0), 0);
        Edges.due("sit(0) of all but itself", Edges.told("n 6;"), x -> x.sit(0), 1);
        Edges.due("sit(0) of two as far", Edges.told("n 6;f 0 5 9;f 0 3 9;"), x -> x.sit(0), 3);
        Edges.due("sit(0) of naughts", Edges.told("n 2;f 0 0 0;f 0 1 0;"), x -> x.sit(0), 0);
        Edges.due("sit(1) of naughts", Edges.told("n 2;f 1 1 0;f 0 1 0;"), x -> x.sit(1), 0);
    }

    private static void sitWhereItIsMade() {
        Edges.due("sit(1) itself", Edges.told("n 2;f 1 1 4;"), x -> x.sit(1), 1);
        Edges.due("sit(0) itself", Edges.told("n 2;f 0 0 9;f 0 1 8;"), x -> x.sit(0), 0);
        Edges.due("sit(1) by naught", Edges.told("n 2;f 0 1 0;"), x -> x.sit(1), 1);
    }

    // ---- promise 21

    private static void beginPeople() {
        Edges.numbers("begin(p, ..) of one", Edges.told("p 0 0 40 0;"), (x, p) -> x.begin(p, 0, 0, 0), 0, 0);
        Edges.numbers("begin(p, ..) of three", Edges::some, (x, p) -> x.begin(p, 0, 0, 0), 0, 2);
        Edges.numbers("begin(p, ..) of six", Edges::full, (x, p) -> x.begin(p, 7, 5, 40), 0, 5);
    }

    private static void beginSounds() {
        Edges.numbers("begin(.. sound ..)", Edges::some, (x, sound) -> x.begin(0, sound, 0, 0), 0, 7);
        Edges.numbers("begin(.. sound ..) of six", Edges::full, (x, sound) -> x.begin(5, sound, 5, 40), 0, 7);
    }

    private static void beginPlaces() {
        Edges.numbers("begin(.. place ..) of two", Edges.told("n 2;p 0 0 40 0;"),
            (x, place) -> x.begin(0, 0, place, 0), 0, 1);
        Edges.numbers("begin(.. place ..) of three", Edges::some, (x, place) -> x.begin(0, 0, place, 0), 0, 2);
        Edges.numbers("begin(.. place ..) of six", Edges::full, (x, place) -> x.begin(5, 0, place, 40), 0, 5);
    }

    private static void beginSeconds() {
        Edges.numbers("begin(.. s)", Edges::some, (x, s) -> x.begin(0, 1, 0, s), 0, 40);
        Edges.numbers("begin(.. s) of six", Edges::full, (x, s) -> x.begin(5, 0, 5, s), 0, 40);
        Edges.refused("begin() all wrong", Edges::some, x -> x.begin(LEAST, MOST, LEAST, MOST), BAD);
        Edges.refused("begin() in 41 of what he can't", Edges::some, x -> x.begin(0, 7, 0, 41), BAD);
        Edges.refused("begin() at PLACE 3 of what he can't", Edges::some, x -> x.begin(0, 7, 3, 40), BAD);
    }

    private static void beginsAre(String text, int s, int due) {
        Edges.due("begin(0, 0, 1, " + s + ") of " + text, Edges.told(text), x -> x.begin(0, 0, 1, s), due);
    }

    private static void beginFromAndTo() {
        int[] seconds = {5, 6, 7, 15, 16, 17};
        int[] due = {NONE, 10, 11, 19, 20, NONE};
        for (int k = 0; k < seconds.length; k++) {
            beginsAre("f 0 1 4;p 0 10 20 0;", seconds[k], due[k]);
        }
        beginsAre("f 0 1 0;p 0 0 40 0;", 0, 0);
        beginsAre("f 0 1 0;p 0 0 40 0;", 40, 40);
        beginsAre("f 0 1 0;p 0 0 39 0;", 40, NONE);
        beginsAre("f 0 1 9;p 0 0 40 0;", 0, 9);
        beginsAre("f 0 1 9;p 0 0 40 0;", 31, 40);
        beginsAre("f 0 1 9;p 0 0 40 0;", 32, NONE);
        beginsAre("f 0 1 9;p 0 0 40 0;", 40, NONE);
        beginsAre("f 0 1 9;p 0 9 9 0;", 0, 9);
        beginsAre("f 0 1 9;p 0 10 10 0;", 0, NONE);
        beginsAre("f 0 1 0;p 0 0 0 0;", 0, 0);
        beginsAre("f 0 1 0;p 0 0 0 0;", 1, NONE);
        beginsAre("p 1 0 40 0;", 39, 40);
        beginsAre("p 1 0 40 0;", 40, NONE);
    }

    private static void beginOfWhatHeCannot() {
        for (int can = 0; can < 8; can++) {
            for (int sound = 0; sound < 8; sound++) {
                int asked = sound;
                Edges.due("begin() of " + sound + " by one who can " + can, Edges.told("p 0 0 40 " + can + ";"),
                    x -> x.begin(0, asked, 0, 0), sound == can ? 1 : NONE);
            }
        }
    }

    private static void beginWhateverIsKnown() {
        EchoesFirst x = Check.told("n 2;f 0 1 4;p 0 0 40 0;");
        Check.log(x, 6, 1, 0, 0);
        Check.log(x, 9, 0, 0, 0);
        Check.due("whatever is STILL", x.begin(0, 0, 1, 6), 10);
        Check.pass(x, 60);
        Check.due("whatever NOW is", x.begin(0, 0, 1, 6), 10);
        x.moves(0, 1);
        Check.due("from where he is", x.begin(0, 0, 1, 6), 7);
    }

    // ---- promise 22

    private static void togetherSounds() {
        Edges.numbers("together(sound, ..)", Edges::some, (x, sound) -> x.together(sound, 0, 7), 0, 7);
        Edges.numbers("together(sound, ..) of six", Edges::full, (x, sound) -> x.together(sound, 5, 63), 0, 7);
    }

    private static void togetherPlaces() {
        Edges.numbers("together(.. place ..) of two", Edges.told("n 2;p 0 0 40 0;"),
            (x, place) -> x.together(0, place, 1), 0, 1);
        Edges.numbers("together(.. place ..) of three", Edges::some, (x, place) -> x.together(0, place, 1), 0, 2);
        Edges.numbers("together(.. place ..) of six", Edges::full, (x, place) -> x.together(0, place, 63), 0, 5);
    }

    private static void togetherPeople() {
        Edges.numbers("together(.. people) of one", Edges.told("p 0 0 40 0;"), (x, people) -> x.together(0, 0, people),
            1, 1);
        Edges.numbers("together(.. people) of three", Edges::some, (x, people) -> x.together(0, 0, people), 1, 7);
        Edges.numbers("together(.. people) of six", Edges::full, (x, people) -> x.together(0, 0, people), 1, 63);
        for (int people = -2; people < 3; people++) {
            int some = people;
            Edges.refused("together(.. " + people + ") of nobody", Edges.nothing(), x -> x.together(0, 0, some), BAD);
        }
        Edges.refused("one there is and one there isn't", Edges::some, x -> x.together(0, 0, 9), BAD);
        Edges.refused("together() all wrong", Edges::some, x -> x.together(MOST, LEAST, MOST), BAD);
    }

    private static void togetherFirstAndLastSecond() {
        Edges.due("from 0 on", Edges.told("f 0 1 0;p 0 0 40 0;p 0 0 0 0;"), x -> x.together(0, 1, 3), 0);
        Edges.due("in 40", Edges.told("f 0 1 0;p 0 0 40 0;p 0 40 40 0;"), x -> x.together(0, 1, 3), 40);
        Edges.due("in 39, that is made in 40", Edges.told("p 1 0 40 0;p 1 40 40 0;"), x -> x.together(0, 1, 3), 39);
        Edges.due("not below 0", Edges.told("f 0 1 5;p 0 4 4 0;"), x -> x.together(0, 1, 1), NONE);
        Edges.due("in 0, that is made in 5", Edges.told("f 0 1 5;p 0 5 5 0;"), x -> x.together(0, 1, 1), 0);
        Edges.due("of six", Edges.told(SIX_ALIKE), x -> x.together(0, 0, 63), 0);
        Edges.due("of the sixth alone", Edges.told(SIX_ALIKE.replaceFirst("p0 0 40 0;$", "p0 7 9 0;")),
            x -> x.together(0, 0, 32), 6);
    }

    private static void togetherOfOneWhoCannot() {
        Edges.Script two = Edges.told("p 0 0 40 0 1;p 0 0 40 1;");
        Edges.due("both can", two, x -> x.together(1, 0, 3), 0);
        Edges.due("one can't", two, x -> x.together(0, 0, 3), NONE);
        Edges.due("he alone can't", two, x -> x.together(0, 0, 2), NONE);
        Edges.due("none can", two, x -> x.together(7, 0, 3), NONE);
    }

    private static void togetherOfThoseNeverThere() {
        Edges.Script apart = Edges.told("p 0 0 10 0;p 0 11 40 0;p 0 10 11 0;");
        Edges.due("never both", apart, x -> x.together(0, 0, 3), NONE);
        Edges.due("in one's last second", apart, x -> x.together(0, 0, 5), 9);
        Edges.due("in one's first second", apart, x -> x.together(0, 0, 6), 10);
        Edges.due("of all", apart, x -> x.together(0, 0, 7), NONE);
        Edges.due("whatever is STILL and NOW", x -> {
            apart.on(x);
            Check.log(x, 9, 0, 0, 0);
            Check.pass(x, 60);
        }, x -> x.together(0, 0, 5), 9);
    }

    // ---- promise 23

    private static void playedRows() {
        int[] wrong = {-1, -11, LEAST, LEAST + 1, MOST, 1111111, 1000000, 8888888, 11111111, 111111111, 1111111111,
            2111111111};
        for (int row : wrong) {
            Edges.refused("played(" + row + ", ..)", Edges::some, x -> x.played(row, 0, 0), BAD);
        }
        int[] right = {1, 8, 11, 88, 111, 888, 1111, 8888, 11111, 88888, 111111, 888888};
        for (int row : right) {
            Edges.due("played(" + row + ", ..)", Edges.told("p 0 0 40 0 7;"), x -> x.played(row, 0, 0), 1);
        }
    }

    private static void playedFigures() {
        int unit = 1;
        for (int place = 0; place < 6; place++) {
            int ones = 111111;
            for (int figure = 0; figure < 10; figure++) {
                int row = ones + (figure - 1) * unit;
                boolean isShorter = figure == 0 && place == 5;
                if (figure >= 1 && figure <= 8 || isShorter) {
                    Edges.due("played(" + row + ", ..)", Edges.told("p 0 0 40 0 1 2 3 4 5 6 7;"),
                        x -> x.played(row, 0, 0), 1);
                } else {
                    Edges.refused("played(" + row + ", ..)", Edges::some, x -> x.played(row, 0, 0), BAD);
                }
            }
            unit *= 10;
        }
        int[] wrong = {9, 10, 19, 20, 90, 91, 80, 100, 101, 109, 190, 100000, 800000, 999999, 888889, 988888};
        for (int row : wrong) {
            Edges.refused("played(" + row + ", ..)", Edges::some, x -> x.played(row, 0, 0), BAD);
        }
    }

    private static void playedPlaces() {
        Edges.numbers("played(.. place ..) of two", Edges.told("n 2;"), (x, place) -> x.played(1, place, 0), 0, 1);
        Edges.numbers("played(.. place ..) of four", Edges.nothing(), (x, place) -> x.played(0, place, 40), 0, 3);
        Edges.numbers("played(.. place ..) of six", Edges::full, (x, place) -> x.played(888888, place, 0), 0, 5);
    }

    private static void playedSeconds() {
        Edges.numbers("played(.. s)", Edges::some, (x, s) -> x.played(1, 0, s), 0, 40);
        Edges.numbers("played(0 .. s)", Edges::some, (x, s) -> x.played(0, 2, s), 0, 40);
        Edges.numbers("played(.. s) of six", Edges::full, (x, s) -> x.played(111111, 5, s), 0, 40);
    }

    private static void playedNoSounds() {
        Edges.due("played(0, 0, 0) of nobody", Edges.nothing(), x -> x.played(0, 0, 0), 1);
        Edges.due("played(0, 3, 40) of nobody", Edges.nothing(), x -> x.played(0, 3, 40), 1);
        Edges.due("played(0, 1, 40) of six", Edges.told(SIX_ALIKE), x -> x.played(0, 1, 40), 1);
        Edges.due("played(1, 0, 0) of nobody", Edges.nothing(), x -> x.played(1, 0, 0), 0);
    }

    private static void playedTheFirstTheHighest() {
        Edges.Script three = Edges.told("n 2;f 0 0 0;p 0 5 5 0 2;p 0 6 6 1 2;p 0 7 7 7;");
        int[] rows = {128, 821, 12, 21, 28, 328, 338, 1, 3, 33, 333, 18};
        int[] due = {1, 0, 1, 0, 0, 1, 1, 1, 1, 1, 0, 0};
        for (int k = 0; k < rows.length; k++) {
            int row = rows[k];
            Edges.due("played(" + row + ", 0, 5)", three, x -> x.played(row, 0, 5), due[k]);
        }
        Edges.due("played(28, 0, 6)", three, x -> x.played(28, 0, 6), 1);
        Edges.due("played(128, 0, 4)", three, x -> x.played(128, 0, 4), 0);
        Edges.due("played(128, 0, 6)", three, x -> x.played(128, 0, 6), 0);
    }

    private static void playedBeyondForty() {
        Edges.Script two = Edges.told("n 2;f 0 0 0;p 0 0 40 0;p 0 0 40 0;");
        Edges.due("up to 40", two, x -> x.played(111111, 0, 35), 64);
        Edges.due("up to 41", two, x -> x.played(111111, 0, 36), 0);
        Edges.due("up to 45", two, x -> x.played(111111, 0, 40), 0);
        Edges.due("in 40 alone", two, x -> x.played(1, 0, 40), 2);
        Edges.due("from 40 on", two, x -> x.played(11, 0, 40), 0);
    }

    private static void playedByMost() {
        Edges.due("six players of six SOUNDS", Edges.told(SIX_ALIKE), x -> x.played(111111, 0, 0), 46656);
        Edges.due("whatever is STILL and NOW", x -> {
            Check.tell(x, SIX_ALIKE);
            Check.log(x, 0, 0, 0, 0);
            Check.pass(x, 60);
        }, x -> x.played(111111, 0, 0), 46656);
    }

    // ---- promise 24

    private static void sureNumbers() {
        Edges.numbers("sure(place, ..) of two", Edges.told("n 2;"), (x, place) -> x.sure(place, 0), 0, 1);
        Edges.numbers("sure(place, ..) of four", Edges.nothing(), (x, place) -> x.sure(place, 7), 0, 3);
        Edges.numbers("sure(place, ..) of six", Edges::full, (x, place) -> x.sure(place, 0), 0, 5);
        Edges.numbers("sure(.. sound)", Edges::some, (x, sound) -> x.sure(0, sound), 0, 7);
        Edges.numbers("sure(.. sound) of six", Edges::full, (x, sound) -> x.sure(5, sound), 0, 7);
        Edges.refused("sure() all wrong", Edges::full, x -> x.sure(MOST, LEAST), BAD);
    }

    private static void sureIs(String text, int due) {
        Edges.due("sure(0, 0) of " + text, Edges.told(text), x -> x.sure(0, 0), due);
    }

    private static void sureOfNobody() {
        sureIs("", 41);
        sureIs("p 1 0 40 0;", 41);
        sureIs("p 0 0 40 1 2 3 4 5 6 7;", 41);
        Edges.due("sure(1, 0) of one at PLACE 0", Edges.told("p 0 0 40 0;"), x -> x.sure(1, 0), 41);
        Edges.due("sure(1, 0) of one at PLACE 2", Edges.told("p 2 0 40 0;"), x -> x.sure(1, 0), 41);
    }

    private static void sureFromAndTo() {
        sureIs("p 0 0 40 0;", 0);
        sureIs("p 0 0 39 0;", 1);
        sureIs("p 0 1 40 0;", 1);
        sureIs("p 0 0 0 0;", 40);
        sureIs("p 0 40 40 0;", 40);
        sureIs("p 0 20 20 0;", 40);
        sureIs("p 0 0 19 0;p 0 21 40 0;", 1);
        sureIs("p 0 0 20 0;p 0 20 40 0;", 0);
        sureIs("p 0 0 20 0;p 1 20 40 0;", 20);
        sureIs("p 0 3 9 0;p 0 3 9 0;", 34);
    }

    private static void sureByDeedsThatCanBe() {
        Edges.Script here = Edges.told("n 2;f 0 0 0;f 0 1 4;p 0 0 40 0;");
        int[][] still = {{0, 0, 1}, {40, 0, 1}, {0, 1, 1}, {36, 1, 1}, {37, 1, 0}, {40, 1, 0}};
        for (int[] one : still) {
            Edges.due("STILL in " + one[0] + " at " + one[1], x -> {
                here.on(x);
                Check.log(x, one[0], one[1], 0, 0);
            }, x -> x.sure(0, 0), one[2]);
        }
        Edges.due("eight STILL", x -> {
            here.on(x);
            for (int k = 0; k < 8; k++) {
                Check.log(x, 5 * k, 0, 0, 0);
            }
        }, x -> x.sure(0, 0), 8);
        Edges.due("two STILL of the same deed", x -> {
            here.on(x);
            Check.log(x, 9, 0, 0, 0);
            Check.log(x, 5, 1, 0, 0);
        }, x -> x.sure(0, 0), 1);
        Edges.due("what is HEARD", x -> {
            here.on(x);
            Check.log(x, 9, 0, 0, 1);
        }, x -> x.sure(0, 0), 0);
        Edges.due("STILL of another SOUND", x -> {
            here.on(x);
            Check.log(x, 9, 0, 1, 0);
        }, x -> x.sure(0, 0), 0);
    }

    private static void sureWhereHeIs() {
        EchoesFirst x = Check.told("n 2;p 0 0 9 0;");
        Check.due("sure(0, 0)", x.sure(0, 0), 31);
        x.moves(0, 1);
        Check.due("sure(0, 0) when moved", x.sure(0, 0), 41);
        Check.due("sure(1, 0) when moved", x.sure(1, 0), 31);
        Check.pass(x, 60);
        Check.due("sure(1, 0) whatever NOW is", x.sure(1, 0), 31);
    }
}
