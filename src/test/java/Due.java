/** Answers that are due: prints each that is not, and ends the test with exit code 1 if there was one. */
final class Due {
    static final int BAD = -1000000001, NO = -1000000002, FULL = -1000000003, NONE = -1000000005,
            NOTHING = -1000000011, KIND = -1000000012, INDEX = -1000000013, SIZE = -1000000014;
    private static int looked = 0;
    private static int wrong = 0;

    private Due() {
    }

    static void is(String call, long got, long want) {
        looked++;
        if (got != want) {
            wrong++;
            System.out.println(call + " answered " + got + ", due is " + want);
        }
    }

    static void holds(String what, boolean so) {
        is(what, so ? 1 : 0, 1);
    }

    static void ends(String test) {
        System.out.println(test + ": " + looked + " answers looked at, " + wrong + " not as due");
        if (wrong != 0 || looked == 0) {
            System.exit(1);
        }
    }

    /** A camp with wagons of so many foals each. */
    static WolfFires ring(int... foals) {
        WolfFires x = new WolfFires();
        for (int k = 0; k < foals.length; k++) {
            is("wagon(" + foals[k] + ")", x.wagon(foals[k]), k);
        }
        return x;
    }

    /** Puts a text on the tape, byte for byte. */
    static void type(WolfFires x, String text) {
        int had = x.count(10);
        for (int k = 0; k < text.length(); k += 12) {
            x.feed(four(text, k), four(text, k + 4), four(text, k + 8));
        }
        x.trim(had + text.length());
    }

    private static int four(String text, int from) {
        int number = 0;
        for (int k = from; k < from + 4; k++) {
            number = number << 8 | (k < text.length() ? text.charAt(k) & 255 : 0);
        }
        return number;
    }

    static int text(WolfFires x, String text) {
        type(x, text);
        return x.text();
    }
}
