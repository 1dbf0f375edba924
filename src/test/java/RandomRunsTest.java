import java.util.Random;

/** Runs of up to 512 random calls, each answer held against the Reference; the seeds are fixed. */
public final class RandomRunsTest {
    private static final int RUNS = 500;
    private static final int CALLS = 512;

    private final Random random;
    private final EchoesFirst x = new EchoesFirst();
    private final Reference y = new Reference();
    private int calls = 0;
    private int unknown = 0;

    private RandomRunsTest(long seed) {
        random = new Random(seed);
    }

    public static void main(String[] args) {
        int unknown = 0;
        for (int seed = 0; seed < RUNS; seed++) {
            RandomRunsTest run = new RandomRunsTest(seed);
            run.go(seed);
            unknown += run.unknown;
        }
        System.out.println(unknown + " answers were not tried");
        Check.isTrue("most answers are tried", unknown < RUNS * CALLS / 100);
        wildArguments();
        Check.end();
    }

    private int below(int bound) {
        return random.nextInt(bound);
    }

    /** Mostly from 0 below the bound, now and then one beside it, seldom anything. */
    private int around(int bound) {
        int dice = below(40);
        if (dice == 0) {
            return random.nextInt();
        }
        return dice < 4 || bound <= 0 ? below(Math.max(bound, 0) + 3) - 1 : below(bound);
    }

    private void due(String call, long got, long want) {
        calls++;
        if (want == Reference.UNKNOWN) {
            unknown++;
        } else {
            Check.due(call, got, want);
        }
    }

    private void go(int seed) {
        boolean isLong = seed % 3 == 0;
        tell(seed % 7 == 0);
        while (calls < CALLS - 20) {
            int dice = below(isLong ? 400 : 200);
            if (dice == 0 && calls < CALLS - 230) {
                tell(true);
            } else if (dice < 30) {
                logOne();
            } else {
                ask(seed + ": ");
            }
        }
    }

    private void tell(boolean mayBeWrong) {
        String text = someText();
        if (mayBeWrong && below(2) == 0) {
            text = spoiled(text);
        }
        due("clear()", x.clear(), y.clear());
        for (int k = 0; k < text.length(); k++) {
            due("type of '" + text + "'", x.type(text.charAt(k)), y.type(text.charAt(k)));
        }
        due("valley() of '" + text + "'", x.valley(), y.valley());
    }

    private String blanks() {
        return " ".repeat(below(8) == 0 ? 2 : 1);
    }

    private String someText() {
        StringBuilder text = new StringBuilder(below(5) == 0 ? " " : "");
        int places = 4;
        if (below(3) > 0) {
            places = 2 + below(5);
            text.append("n").append(below(2) == 0 ? "" : " ").append(places).append(";");
        }
        for (int k = below(6); k > 0; k--) {
            text.append("f").append(blanks()).append(below(places)).append(blanks()).append(below(places))
                .append(" ").append(below(10)).append(below(9) == 0 ? " ;" : ";");
        }
        for (int k = below(8) == 0 ? 0 : 1 + below(6); k > 0; k--) {
            int from = below(2) == 0 ? 0 : below(41);
            int to = below(2) == 0 ? 40 : from + below(41 - from);
            text.append("p").append(below(places)).append(" ").append(from).append(blanks()).append(to);
            int sounds = below(4) == 0 ? 1 + below(255) : 1 + below(7);
            for (int sound = 0; sound < 8; sound++) {
                text.append((sounds >> sound & 1) != 0 ? " " + sound : "");
            }
            text.append(";").append(below(9) == 0 ? " " : "");
        }
        return text.length() > 200 ? text.substring(0, 200) : text.toString();
    }

    private String spoiled(String text) {
        String bytes = "nfp;;;0123456789  xN!\t\u00ff\u0000";
        StringBuilder other = new StringBuilder(text);
        for (int k = 1 + below(2); k > 0; k--) {
            int place = below(other.length() + 1);
            char sign = bytes.charAt(below(bytes.length()));
            if (below(3) == 0 || place == other.length()) {
                other.insert(place, sign);
            } else if (below(2) == 0) {
                other.setCharAt(place, sign);
            } else {
                other.deleteCharAt(place);
            }
        }
        return other.length() > 200 ? other.substring(0, 200) : other.toString();
    }

    /** Mostly something that somebody's deed is heard as. */
    private void logOne() {
        int people = y.count(1);
        int place = around(y.count(0));
        int s = around(41);
        int sound = around(3);
        if (people > 0 && below(10) > 0) {
            int p = below(people);
            int sounds = y.person(p, 1);
            sound = below(2) == 0 ? Integer.numberOfTrailingZeros(sounds) : 31 - Integer.numberOfLeadingZeros(sounds);
            int from = y.person(p, 2);
            int span = Math.min(y.person(p, 3) - from + 1, 12);
            place = below(y.count(0));
            s = Math.max(0, from + below(span) - y.far(y.person(p, 0), place));
        }
        int is = below(12) == 0 ? around(2) : below(5) == 0 ? 0 : 1;
        String call = "heard(" + s + ", " + place + ", " + sound + ", " + is + ")";
        due(call, x.heard(s, place, sound, is), y.heard(s, place, sound, is));
    }

    private void ask(String run) {
        int a = around(6);
        int b = around(8);
        int c = around(6);
        int d = around(41);
        int p = around(y.count(1));
        int place = around(y.count(0));
        int i = around(y.count(2));
        int what = around(3);
        String call = run + "after " + calls + " calls, with a " + a + " b " + b + " c " + c + " d " + d
            + " p " + p + " place " + place + " i " + i + " what " + what;
        switch (below(32)) {
            case 0 -> due("type " + call, x.type(a), y.type(a));
            case 1 -> due("far " + call, x.far(a, c), y.far(a, c));
            case 2 -> due("person " + call, x.person(p, c), y.person(p, c));
            case 3 -> askForget(call);
            case 4, 5 -> due("who " + call, x.who(i), y.who(i));
            case 6 -> due("nobody " + call, x.nobody(), y.nobody());
            case 7, 8 -> due("deeds " + call, x.deeds(what), y.deeds(what));
            case 9, 10 -> due("first " + call, x.first(a), y.first(a));
            case 11, 12, 13 -> due("odds " + call, x.odds(p, i, b & 1), y.odds(p, i, b & 1));
            case 14 -> due("odds of any what " + call, x.odds(p, i, what), y.odds(p, i, what));
            case 15, 16 -> due("second " + call, x.second(), y.second());
            case 17, 18, 19 -> due("makes " + call, x.makes(p, what), y.makes(p, what));
            case 20 -> due("moves " + call, x.moves(p, place), y.moves(p, place));
            case 21 -> due("undo " + call, x.undo(), y.undo());
            case 22 -> due("done " + call, x.done(c, what), y.done(c, what));
            case 23, 24 -> due("now " + call, x.now(what), y.now(what));
            case 25 -> due("sit " + call, x.sit(place), y.sit(place));
            case 26 -> due("begin " + call, x.begin(p, b, place, d), y.begin(p, b, place, d));
            case 27 -> askTogether(call, b, place);
            case 28 -> askPlayed(call, place, d);
            case 29 -> due("sure " + call, x.sure(place, b), y.sure(place, b));
            case 30 -> due("mark " + call, x.mark(a, b), y.mark(a, b));
            default -> askOfImages(call);
        }
    }

    /** Seldom, as so much is asked of what THE LOG has. */
    private void askForget(String call) {
        if (below(4) == 0) {
            due("forget " + call, x.forget(), y.forget());
        }
    }

    private void askTogether(String call, int sound, int place) {
        int people = around(1 << y.count(1));
        due("together of " + people + " " + call, x.together(sound, place, people), y.together(sound, place, people));
    }

    private void askPlayed(String call, int place, int s) {
        int row = 0;
        for (int k = below(7); k > 0; k--) {
            row = row * 10 + (below(20) == 0 ? below(10) : 1 + below(3));
        }
        row = below(30) == 0 ? random.nextInt() : row;
        due("played of " + row + " " + call, x.played(row, place, s), y.played(row, place, s));
    }

    private void askOfImages(String call) {
        int image = around(2);
        int what = around(7);
        switch (below(4)) {
            case 0 -> due("keep of " + image + " " + call, x.keep(image), y.keep(image));
            case 1 -> due("back of " + image + " " + call, x.back(image), y.back(image));
            case 2 -> due("count of " + what + " " + call, x.count(what), y.count(what));
            default -> due("trace " + call, x.trace(), y.trace());
        }
    }

    /** No call ever throws, whatever its arguments are. */
    private static void wildArguments() {
        Random random = new Random(77);
        for (int k = 0; k < 1000; k++) {
            RandomRunsTest run = new RandomRunsTest(1000 + k);
            run.tell(false);
            for (int round = 0; round < 14; round++) {
                run.wildCall(random);
            }
        }
        Check.isTrue("wild arguments", true);
    }

    private static int wild(Random random) {
        int[] some = {0, 1, 2, -1, 5, 7, 40, 64, 200, Integer.MAX_VALUE, Integer.MIN_VALUE, 1 << 20, -715827882};
        return random.nextInt(4) == 0 ? random.nextInt() : some[random.nextInt(some.length)];
    }

    private void wildCall(Random r) {
        int a = wild(r);
        int b = wild(r);
        int c = wild(r);
        int d = wild(r);
        due("far", x.far(a, b), y.far(a, b));
        due("person", x.person(a, b), y.person(a, b));
        due("heard", x.heard(a, b, c, d), y.heard(a, b, c, d));
        due("who", x.who(a), y.who(a));
        due("deeds", x.deeds(a), y.deeds(a));
        due("first", x.first(a), y.first(a));
        due("odds", x.odds(a, b, c), y.odds(a, b, c));
        due("makes", x.makes(a, b), y.makes(a, b));
        due("moves", x.moves(a, b), y.moves(a, b));
        due("done", x.done(a, b), y.done(a, b));
        due("now", x.now(a), y.now(a));
        due("sit", x.sit(a), y.sit(a));
        due("begin", x.begin(a, b, c, d), y.begin(a, b, c, d));
        due("together", x.together(a, b, c), y.together(a, b, c));
        due("played", x.played(a, b, c), y.played(a, b, c));
        due("sure", x.sure(a, b), y.sure(a, b));
        due("mark", x.mark(a, b), y.mark(a, b));
        due("keep", x.keep(a), y.keep(a));
        due("back", x.back(b), y.back(b));
        due("count", x.count(a), y.count(a));
        due("type", x.type(a), y.type(a));
    }
}
