/** What the tests share: an answer is held against the one that is due, wrong ones are printed. */
final class Check {
    private static int wrong = 0;
    private static int seen = 0;

    private Check() {
    }

    static void due(String call, long got, long want) {
        seen++;
        if (got != want) {
            wrong++;
            System.out.println(call + " answered " + got + ", due is " + want);
        }
    }

    static void isTrue(String what, boolean holds) {
        due(what, holds ? 1 : 0, 1);
    }

    static void type(EchoesFirst x, String text) {
        x.clear();
        for (int k = 0; k < text.length(); k++) {
            due("type of '" + text + "' at " + k, x.type(text.charAt(k)), k + 1);
        }
    }

    /** A new object that a text without FAULT has told all. */
    static EchoesFirst told(String text) {
        EchoesFirst x = new EchoesFirst();
        tell(x, text);
        return x;
    }

    static void tell(EchoesFirst x, String text) {
        type(x, text);
        isTrue("valley() takes '" + text + "'", x.valley() >= 0);
    }

    static void pass(EchoesFirst x, int seconds) {
        for (int k = 0; k < seconds; k++) {
            isTrue("second() goes by", x.second() > 0);
        }
    }

    static void log(EchoesFirst x, int s, int place, int sound, int is) {
        isTrue("heard(" + s + ", " + place + ", " + sound + ", " + is + ")", x.heard(s, place, sound, is) > 0);
    }

    /** All that can be seen of an object without changing it, but for WHO, the sets, and what depends on both. */
    static String face(EchoesFirst x) {
        StringBuilder seenOf = new StringBuilder();
        for (int what = 0; what < 7; what++) {
            seenOf.append(x.count(what)).append(' ');
        }
        for (int a = 0; a < x.count(0); a++) {
            for (int b = 0; b < x.count(0); b++) {
                seenOf.append(x.far(a, b));
            }
        }
        for (int p = 0; p < x.count(1); p++) {
            seenOf.append(" p");
            for (int what = 0; what < 4; what++) {
                seenOf.append(' ').append(x.person(p, what));
            }
        }
        for (int i = 0; i < x.count(4); i++) {
            seenOf.append(" d");
            for (int what = 0; what < 4; what++) {
                seenOf.append(' ').append(x.done(i, what));
            }
        }
        for (int what = 0; what < 3; what++) {
            seenOf.append(" now ").append(x.now(what)).append(" deeds ").append(x.deeds(what));
        }
        for (int i = 0; i < x.count(2); i++) {
            seenOf.append(" w").append(x.who(i));
        }
        return seenOf.append(" t").append(x.trace()).toString();
    }

    static void same(String what, String got, String want) {
        seen++;
        if (!got.equals(want)) {
            wrong++;
            System.out.println(what + ":\n  is  " + got + "\n  due " + want);
        }
    }

    static void end() {
        System.out.println(seen + " answers, " + wrong + " not as due");
        if (wrong != 0 || seen == 0) {
            System.exit(1);
        }
    }
}
