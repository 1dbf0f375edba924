import java.util.List;
import java.util.function.Function;

/**
 * What the tests of edges share. A call that is refused is held to answer as due and to change
 * nothing: of two objects of one script one is refused, then both are looked at from all sides.
 * Each look has objects of its own, as an object serves 512 calls.
 */
final class Edges {
    static final int BAD = -1, STATE = -2, FULL = -3, NONE = -9, NO = -1000000, NOT_SO_MANY = -5;
    static final int MOST = Integer.MAX_VALUE, LEAST = Integer.MIN_VALUE;

    /** What is called ahead of the call that is looked at. */
    interface Script {
        void on(EchoesFirst x);
    }

    interface Call {
        long of(EchoesFirst x);
    }

    interface CallWith {
        long of(EchoesFirst x, int number);
    }

    private static final List<Function<EchoesFirst, String>> SIDES = List.of(Check::face, Edges::sets,
        Edges::allUndone, x -> imageAndUndone(x, 0), x -> imageAndUndone(x, 1), Edges::textAndWhatItTells);

    private Edges() {
    }

    static EchoesFirst after(Script script) {
        EchoesFirst x = new EchoesFirst();
        script.on(x);
        return x;
    }

    static void due(String call, Script script, Call looked, long want) {
        Check.due(call, looked.of(after(script)), want);
    }

    static void refused(String call, Script script, Call looked, int refusal) {
        for (Function<EchoesFirst, String> side : SIDES) {
            EchoesFirst x = after(script);
            Check.due(call, looked.of(x), refusal);
            Check.same(call + ", refused, changes nothing", side.apply(x), side.apply(after(script)));
        }
    }

    /** Numbers from least to most are taken; those beside them, and far from them, are BAD. */
    static void numbers(String call, Script script, CallWith looked, int least, int most) {
        numbers(call, script, looked, least, most, BAD);
    }

    static void numbers(String call, Script script, CallWith looked, int least, int most, int refusal) {
        long[] within = {least, least + 1L, (0L + least + most) / 2, most - 1L, most};
        for (long number : within) {
            if (number >= least && number <= most) {
                long got = looked.of(after(script), (int) number);
                Check.isTrue(call + " takes " + number + ", answering " + got, got != refusal);
            }
        }
        long[] beside = {least - 1L, least - 2L, most + 1L, most + 2L, least + 256L, most + 256L, least - 256L,
            least + 65536L, LEAST, LEAST + 1L, LEAST + (long) Math.max(most, 0), MOST, MOST - 1L};
        for (long number : beside) {
            if (number == (int) number && (number < least || number > most)) {
                refused(call + " of " + number, script, x -> looked.of(x, (int) number), refusal);
            }
        }
    }

    // ---- sides

    private static String sets(EchoesFirst x) {
        StringBuilder seen = new StringBuilder("nobody ").append(x.nobody());
        for (int i = 0; i <= x.count(2); i++) {
            seen.append(" first ").append(x.first(i)).append(" odds");
            for (int p = 0; p < x.count(1); p++) {
                seen.append(' ').append(x.odds(p, i, 0)).append('/').append(x.odds(p, i, 1));
            }
        }
        for (int place = 0; place < x.count(0); place++) {
            seen.append(" sure ").append(x.sure(place, 0)).append(' ').append(x.sure(place, 1));
        }
        return seen.toString();
    }

    private static String allUndone(EchoesFirst x) {
        StringBuilder seen = new StringBuilder();
        int people = x.count(1);
        for (int k = 0; k < 12; k++) {
            seen.append(" undo ").append(x.undo()).append(" now ").append(x.count(3)).append(" done ")
                .append(x.count(4));
            for (int p = 0; p < people; p++) {
                seen.append(' ').append(x.person(p, 0));
            }
        }
        return seen.toString();
    }

    private static String imageAndUndone(EchoesFirst x, int image) {
        StringBuilder seen = new StringBuilder("back ").append(x.back(image));
        for (int i = 0; i < x.count(4); i++) {
            seen.append(' ').append(x.done(i, 0)).append(x.done(i, 1)).append(x.done(i, 2)).append(x.done(i, 3));
        }
        return seen.append(allUndone(x)).toString();
    }

    private static String textAndWhatItTells(EchoesFirst x) {
        return "type " + x.type(' ') + " valley " + x.valley() + " " + Check.face(x) + " clear " + x.clear();
    }

    // ---- scripts

    static Script nothing() {
        return x -> { };
    }

    static Script told(String text) {
        return x -> Check.tell(x, text);
    }

    /** Three people at three PLACES; of all that can be known there is something. */
    static void some(EchoesFirst x) {
        Check.tell(x, "n 3;f 0 1 4;f 2 2 6;p 0 0 40 1 2;p 1 2 30 2 7;p 2 5 9 0 1;");
        Check.log(x, 5, 1, 1, 1);
        Check.log(x, 6, 1, 2, 0);
        Check.log(x, 3, 0, 2, 1);
        x.mark(3, 2);
        Check.pass(x, 3);
        x.makes(0, 1);
        x.moves(2, 1);
        x.keep(0);
        x.makes(1, 2);
        Check.pass(x, 2);
        x.moves(0, 2);
        x.keep(1);
        x.makes(2, 0);
        x.undo();
        Check.type(x, "n 5;f 4 4 0;");
    }

    /** Six PLACES, six people; THE LOG, what is DONE, what may be UNDONE and THE TEXT are full. */
    static void full(EchoesFirst x) {
        Check.tell(x, "n6;f0 1 4;p0 0 40 0;p1 0 40 1;p2 0 40 0 1;p3 0 40 0;p4 0 40 7;p5 9 40 0;");
        for (int k = 0; k < 8; k++) {
            Check.log(x, k, k % 6, k & 1, k == 6 ? 0 : 1);
        }
        x.keep(0);
        Check.pass(x, 2);
        for (int k = 0; k < 10; k++) {
            Check.due("makes, the " + k + "th", x.makes(k % 2, k % 2), k + 1);
        }
        x.moves(4, 2);
        x.keep(1);
        Check.type(x, "n 5;" + " ".repeat(195) + "x");
    }

    /** NOW is 60. */
    static void late(EchoesFirst x) {
        Check.tell(x, "n 2;p 0 0 40 0 1;p 1 3 30 2;");
        Check.log(x, 9, 1, 1, 1);
        x.makes(0, 1);
        x.keep(0);
        x.moves(1, 0);
        Check.pass(x, 60);
        x.keep(1);
    }
}
