/** Promises 20 to 24: listening, playing. */
public final class ListeningTest {
    private static final int BAD = -1, NONE = -9;

    public static void main(String[] args) {
        sit();
        begin();
        beginAtTheEdges();
        together();
        played();
        playedRows();
        playedBeyondForty();
        sure();
        Check.end();
    }

    private static void sit() {
        EchoesFirst x = new EchoesFirst();
        Check.due("sit(0) at first", x.sit(0), 1);
        Check.due("sit(1) at first", x.sit(1), 0);
        Check.due("sit(3) at first", x.sit(3), 0);
        Check.due("sit(4) at first", x.sit(4), BAD);
        Check.due("sit(-1) at first", x.sit(-1), BAD);
        Check.tell(x, "n 6;f 0 1 4;f 0 5 9;f 0 4 9;f 1 2 5;f 1 1 6;f 2 3 0;f 2 2 9;f 3 3 4;f 5 1 2;");
        int[] due = {4, 1, 2, 3, 0, 0};
        for (int place = 0; place < 6; place++) {
            Check.due("sit(" + place + ")", x.sit(place), due[place]);
        }
        Check.due("sit(6)", x.sit(6), BAD);
        Check.tell(x, "n 2;f 0 0 9;f 0 1 9;f 1 1 9;");
        Check.due("sit(1) of equals", x.sit(1), 0);
        Check.tell(x, "n 2;f 0 1 0;f 1 1 0;f 0 0 0;");
        Check.due("sit(1) of naughts", x.sit(1), 0);
        Check.due("sit(2) of two", x.sit(2), BAD);
    }

    private static void begin() {
        EchoesFirst x = Check.told("n 3;f 0 1 4;f 0 2 9;p 0 5 20 1 7;p 2 0 40 1;");
        Check.due("begin(0, 1, 1, 6)", x.begin(0, 1, 1, 6), 10);
        Check.due("begin(0, 7, 2, 6)", x.begin(0, 7, 2, 6), 15);
        Check.due("begin(1, 1, 0, 0)", x.begin(1, 1, 0, 0), 9);
        Check.due("begin of what he can't", x.begin(0, 2, 1, 6), NONE);
        Check.due("begin(2, ..)", x.begin(2, 1, 1, 6), BAD);
        Check.due("begin(-1, ..)", x.begin(-1, 1, 1, 6), BAD);
        Check.due("begin of SOUND 8", x.begin(0, 8, 1, 6), BAD);
        Check.due("begin of SOUND -1", x.begin(0, -1, 1, 6), BAD);
        Check.due("begin at PLACE 3", x.begin(0, 1, 3, 6), BAD);
        Check.due("begin at PLACE -1", x.begin(0, 1, -1, 6), BAD);
        Check.due("begin for 41", x.begin(0, 1, 1, 41), BAD);
        Check.due("begin for -1", x.begin(0, 1, 1, -1), BAD);
        Check.log(x, 6, 1, 1, 0);
        Check.due("whatever THE LOG has", x.begin(0, 1, 1, 6), 10);
        Check.pass(x, 30);
        Check.due("whatever NOW is", x.begin(0, 1, 1, 6), 10);
        x.moves(0, 2);
        Check.due("from where he is", x.begin(0, 1, 1, 6), 9);
    }

    private static void beginAtTheEdges() {
        EchoesFirst x = Check.told("n 2;f 0 1 4;f 0 0 0;p 0 5 20 1;p 1 0 40 1;");
        Check.due("ahead of FROM", x.begin(0, 1, 1, 0), NONE);
        Check.due("in FROM", x.begin(0, 1, 1, 1), 5);
        Check.due("in TO", x.begin(0, 1, 1, 16), 20);
        Check.due("behind TO", x.begin(0, 1, 1, 17), NONE);
        Check.due("FAR 0", x.begin(0, 1, 0, 5), 5);
        Check.due("in 40", x.begin(1, 1, 0, 36), 40);
        Check.due("behind 40", x.begin(1, 1, 0, 37), NONE);
        Check.due("for 40", x.begin(1, 1, 1, 40), NONE);
        Check.due("for 0", x.begin(1, 1, 1, 0), 1);
    }

    private static void together() {
        EchoesFirst x = Check.told("n 3;f 0 1 4;f 0 2 9;f 1 2 2;p 0 10 20 1 2;p 1 5 9 1;p 2 0 20 1;p 2 40 40 1;");
        Check.due("one alone", x.together(1, 1, 1), 6);
        Check.due("another alone", x.together(1, 1, 2), 4);
        Check.due("two", x.together(1, 1, 3), 6);
        Check.due("three", x.together(1, 1, 7), 6);
        Check.due("from 0 on", x.together(1, 1, 4), 0);
        Check.due("up to 40", x.together(1, 1, 8), 38);
        Check.due("never together", x.together(1, 1, 9), NONE);
        Check.due("one can't", x.together(2, 1, 3), NONE);
        Check.due("the other's SOUND", x.together(2, 1, 1), 6);
        Check.due("two elsewhere", x.together(1, 2, 3), 3);
        Check.due("no PEOPLE", x.together(1, 1, 0), BAD);
        Check.due("PEOPLE who aren't", x.together(1, 1, 16), BAD);
        Check.due("PEOPLE who aren't, too", x.together(1, 1, 17), BAD);
        Check.due("all PEOPLE and more", x.together(1, 1, 31), BAD);
        Check.due("PEOPLE -1", x.together(1, 1, -1), BAD);
        Check.due("PEOPLE least", x.together(1, 1, Integer.MIN_VALUE), BAD);
        Check.due("SOUND 8", x.together(8, 1, 1), BAD);
        Check.due("SOUND -1", x.together(-1, 1, 1), BAD);
        Check.due("PLACE 3", x.together(1, 3, 1), BAD);
        Check.due("PLACE -1", x.together(1, -1, 1), BAD);
        Check.log(x, 6, 1, 1, 0);
        Check.due("whatever THE LOG has", x.together(1, 1, 3), 6);
        Check.due("of a new object", new EchoesFirst().together(0, 0, 1), BAD);
        EchoesFirst y = Check.told("n 2;f 0 1 0;f 0 0 0;p 0 40 40 1;p 1 40 40 1;");
        Check.due("in 40", y.together(1, 0, 1), 40);
        Check.due("both in 40", y.together(1, 0, 3), 40);
        Check.due("one of them too late", y.together(1, 1, 3), NONE);
    }

    private static void played() {
        EchoesFirst x = Check.told("n 2;f 0 1 4;p 0 0 40 0 1;p 1 0 20 0 2;p 1 10 12 0 7;");
        Check.due("played(0, ..)", x.played(0, 0, 0), 1);
        Check.due("played(1, 0, 0)", x.played(1, 0, 0), 2);
        Check.due("played(1, 0, 6)", x.played(1, 0, 6), 3);
        Check.due("played(11, 0, 5)", x.played(11, 0, 5), 6);
        Check.due("played(111, 0, 6)", x.played(111, 0, 6), 27);
        Check.due("played(123, 0, 6)", x.played(123, 0, 6), 3);
        Check.due("played(321, 0, 6)", x.played(321, 0, 6), 3);
        Check.due("played(8, 0, 5)", x.played(8, 0, 5), 0);
        Check.due("played(28, 0, 5)", x.played(28, 0, 5), 1);
        Check.due("played(82, 0, 5)", x.played(82, 0, 5), 0);
        Check.due("played(2228, 0, 5)", x.played(2228, 0, 5), 1);
        Check.due("played(22228, 0, 5)", x.played(22228, 0, 5), 0);
        Check.due("played(4, 0, 5)", x.played(4, 0, 5), 0);
        Check.log(x, 6, 0, 0, 0);
        Check.due("whatever THE LOG has", x.played(1, 0, 6), 3);
    }

    private static void playedRows() {
        EchoesFirst x = Check.told("n 2;p 0 0 40 0 1 2 3 4 5 6 7;");
        Check.due("played(888888, 0, 0)", x.played(888888, 0, 0), 1);
        Check.due("played(111111, 0, 0)", x.played(111111, 0, 0), 1);
        Check.due("played(123456, 1, 9)", x.played(123456, 1, 9), 1);
        Check.due("seven figures", x.played(1111111, 0, 0), BAD);
        Check.due("ten figures", x.played(1111111111, 0, 0), BAD);
        Check.due("most", x.played(Integer.MAX_VALUE, 0, 0), BAD);
        Check.due("-1", x.played(-1, 0, 0), BAD);
        Check.due("least", x.played(Integer.MIN_VALUE, 0, 0), BAD);
        Check.due("a figure 9", x.played(9, 0, 0), BAD);
        Check.due("a 9 ahead", x.played(91, 0, 0), BAD);
        Check.due("a 9 within", x.played(191, 0, 0), BAD);
        Check.due("a 9 as the first of six", x.played(911111, 0, 0), BAD);
        Check.due("a 0 behind", x.played(10, 0, 0), BAD);
        Check.due("a 0 within", x.played(101, 0, 0), BAD);
        Check.due("naughts", x.played(100000, 0, 0), BAD);
        Check.due("a seventh figure with naughts", x.played(1000000, 0, 0), BAD);
        Check.due("PLACE 2", x.played(1, 2, 0), BAD);
        Check.due("PLACE -1", x.played(1, -1, 0), BAD);
        Check.due("no SOUNDS at PLACE 2", x.played(0, 2, 0), BAD);
        Check.due("second 41", x.played(1, 0, 41), BAD);
        Check.due("second -1", x.played(1, 0, -1), BAD);
        Check.due("no SOUNDS in second 41", x.played(0, 0, 41), BAD);
        Check.due("no SOUNDS in second 40", x.played(0, 0, 40), 1);
        Check.due("no SOUNDS of nobody", new EchoesFirst().played(0, 3, 40), 1);
        Check.due("a SOUND of nobody", new EchoesFirst().played(1, 3, 4), 0);
    }

    private static void playedBeyondForty() {
        EchoesFirst x = Check.told("n 2;f 0 1 0;f 0 0 0;p 0 0 40 0;p 1 0 40 0;");
        Check.due("in 40", x.played(1, 1, 40), 1);
        Check.due("in 40 of both", x.played(1, 0, 40), 2);
        Check.due("in 39 of both", x.played(1, 1, 39), 2);
        Check.due("in 40 and beyond", x.played(11, 0, 40), 0);
        Check.due("up to 40", x.played(111111, 1, 35), 32);
        Check.due("up to 41", x.played(111111, 1, 36), 0);
        Check.due("up to 39", x.played(111111, 1, 34), 64);
    }

    private static void sure() {
        EchoesFirst x = Check.told("n 2;f 0 1 4;p 0 3 3 0;p 1 10 19 0 1;p 1 15 24 0;p 0 0 40 7;");
        Check.due("sure(0, 0)", x.sure(0, 0), 40);
        Check.due("sure(1, 0)", x.sure(1, 0), 26);
        Check.due("sure(1, 1)", x.sure(1, 1), 31);
        Check.due("sure(0, 1)", x.sure(0, 1), 41);
        Check.due("sure(0, 7)", x.sure(0, 7), 0);
        Check.due("sure(2, 0)", x.sure(2, 0), BAD);
        Check.due("sure(-1, 0)", x.sure(-1, 0), BAD);
        Check.due("sure(0, 8)", x.sure(0, 8), BAD);
        Check.due("sure(0, -1)", x.sure(0, -1), BAD);
        Check.log(x, 20, 0, 7, 0);
        Check.due("one second STILL here", x.sure(0, 7), 1);
        Check.log(x, 20, 1, 7, 0);
        Check.due("two seconds STILL", x.sure(0, 7), 2);
        Check.log(x, 17, 1, 7, 0);
        Check.due("the same second STILL from both", x.sure(0, 7), 2);
        Check.log(x, 30, 1, 7, 1);
        Check.due("what is HEARD changes nothing", x.sure(0, 7), 2);
        Check.log(x, 11, 0, 0, 0);
        Check.due("STILL of both who could", x.sure(1, 0), 27);
        Check.log(x, 40, 1, 0, 0);
        Check.due("STILL of what nobody could", x.sure(1, 0), 27);
        Check.log(x, 30, 0, 0, 0);
        Check.due("STILL of what is still", x.sure(1, 0), 27);
        x.moves(3, 1);
        Check.due("he is not there any more", x.sure(0, 7), 41);
        Check.due("he is there now", x.sure(1, 7), 3);
        Check.pass(x, 60);
        Check.due("whatever NOW is", x.sure(1, 7), 3);
    }
}
