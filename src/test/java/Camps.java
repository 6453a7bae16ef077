import java.util.ArrayList;
import java.util.List;

/**
 * Camps that are always made alike, and all that can be told of them: so a camp on which a refused call was made can be
 * laid beside one on which it was not.
 */
enum Camps {
    /** A new object. */
    EMPTY,
    /** Something of all, and room for more. */
    SOME,
    /** 12 wagons, 8 watchers, 14 texts, 96 bytes, 60 numbers that wait, all sheets and slots, the hour 9999. */
    FULL;

    /** To tell all at once would be more than 512 calls, so it is told in parts, each of a camp made anew. */
    static final int PARTS = 3;

    /** The camp; without the numbers that wait if they are not told. */
    Script make(boolean tells) {
        switch (this) {
            case SOME:
                return some(tells);
            case FULL:
                return full(tells);
            default:
                return new Script();
        }
    }

    private static Script some(boolean tells) {
        Script s = new Script().on("""
            wagon(3) = 0; wagon(0) = 1; wagon(7) = 2; wagon(12) = 3; wagon(5) = 4
            lays(0, 1, 2); lays(2, 1, 1); lays(1, 2, 4); lays(3, 2, 9); plain(0, 60); plain(1, 9); plain(2, 2)
            watcher(0, 0, 5) = 0; watcher(3, 1, 7) = 1; watcher(4, 2, 3) = 2; watcher(5, 11, 9) = 3
            set(0, 4, 1); set(2, 4, 1); set(1, 3, 12); set(3, 3, 6)
            'light f*3+n' = 0; 'tire e/2' = 1; hours(4); plain(1, 0); seed(77); plain(0, 50); keep() = 5
            """);
        int lost = s.answer("night(0)");
        s.on("""
            plain(1, 8); lays(0, 0, 40); hours(3); 'fear g+t*2' = 2
            sheet(0, 0, 6) = 6; mark(0, 0, -5); mark(0, 5, 32767); sheet(1, 1, 6) = 6; mark(1, 2, NONE); mark(1, 5, 99999); sheet(3, 1, 24) = 24
            lay(0, 1, 1) = 0; lay(1, 2, 1) = 0; lay(2, 3, -17) = 0; lay(4, 2, 0) = 0
            """);
        s.type("fear g*7-t+h            ");
        for (int hour = 1; tells && hour <= 3; hour++) {
            s.on("tell(99)", "tell(" + (lost + 100 * (50 - 3 * hour)) + ")");
        }
        return s;
    }

    private static Script full(boolean tells) {
        Script s = new Script();
        for (int k = 0; k < 33; k++) {
            s.on("hours(300)");
        }
        for (int k = 0; k < 12; k++) {
            s.on("wagon(" + (99 - k) + ") = " + k);
        }
        for (int k = 0; k < 8; k++) {
            s.on("watcher(" + k % 6 + ", " + (k + 2) + ", " + (k + 2) + ") = " + k);
        }
        s.on("lays(3, 1, 2); lays(7, 1, 1); lays(9, 2, 50); plain(0, 9999); plain(1, 0); set(1, 4, 1); set(4, 4, 1); 'light f*4+n*2' = 0; 'tire e' = 1; keep() = 12");
        for (int k = 2; k < 14; k++) {
            s.on((k % 2 == 0 ? "'fear g+t+" : "'light 2*f+") + k + "' = " + k);
        }
        s.on("plain(1, 99); plain(2, 98); hours(99); count(6) = 9999; lays(5, 1, 9); seed(LEAST)");
        for (int k = 0; k < 4; k++) {
            s.on("sheet(" + k + ", " + k % 2 + ", 24) = 24; mark(" + k + ", 0, " + (k + 7) + "); mark(" + k + ", 23, -" + (k + 7) + ")");
        }
        s.on("mark(3, 11, NONE); lay(0, 1, 7) = 0; lay(1, 2, 3) = 0; lay(2, 3, MOST) = 0; lay(3, 1, 0) = 0; lay(4, 2, 2) = 0");
        s.type("fear g" + "+t".repeat(45));
        s.on("count(10) = 96");
        for (int hour = 1; tells && hour <= 30; hour++) {
            s.on("tell(99)", "tell(" + 100 * (9999 - 3 * hour) + ")");
        }
        return s;
    }

    /** All that one part of what can be told says; the camp is used up by it. */
    static List<String> told(Script s, int part) {
        List<String> all = new ArrayList<>();
        switch (part) {
            case 0:
                now(s, all);
                break;
            case 1:
                slots(s, all);
                sheets(s, all);
                break;
            default:
                tell(s, all, "check(30)");
                tell(s, all, "back()");
                now(s, all);
                tell(s, all, "text()");
                for (int k = 0; k < 12; k++) {
                    tell(s, all, "at(" + k + ", 3)");
                    tell(s, all, "at(" + k + ", 5)");
                }
        }
        return all;
    }

    private static int tell(Script s, List<String> all, String call) {
        int answer = s.answer(call);
        all.add(call + " = " + answer);
        return answer;
    }

    private static void now(Script s, List<String> all) {
        for (int what = 0; what < 12; what++) {
            tell(s, all, "count(" + what + ")");
        }
        for (int what = 0; what < 4; what++) {
            tell(s, all, "night(" + what + ")");
        }
        for (int key = 0; key < 3; key++) {
            tell(s, all, "why(" + key + ")");
        }
        for (int k = 0; tell(s, all, "at(" + k + ", 0)") >= 0; k++) {
            for (int what = 1; what < 6; what++) {
                tell(s, all, "at(" + k + ", " + what + ")");
            }
        }
        for (int k = 0; tell(s, all, "told(" + k + ", 0)") >= 0; k++) {
            for (int what = 1; what < 7; what++) {
                tell(s, all, "told(" + k + ", " + what + ")");
            }
        }
        for (int k = 0; tell(s, all, "textTold(" + k + ", 0)") >= 0; k++) {
            tell(s, all, "textTold(" + k + ", 1)");
        }
    }

    private static void slots(Script s, List<String> all) {
        for (int slot = 0; slot < 5; slot++) {
            for (int kind = 0; kind < 6; kind++) {
                tell(s, all, "ask(" + slot + ", " + kind + ")");
            }
            tell(s, all, "rest(" + slot + ", LEAST)");
            items(s, all, slot);
        }
    }

    private static void items(Script s, List<String> all, int slot) {
        for (int k = 0; k < 25; k++) {
            int v = tell(s, all, "item(" + slot + ", " + k + ")");
            if (v == Due.NOTHING || v == Due.INDEX || v == Due.KIND && k == 0) {
                break;
            }
        }
    }

    private static void sheets(Script s, List<String> all) {
        for (int sheet = 0; sheet < 4; sheet++) {
            if (tell(s, all, "lay(0, 2, " + sheet + ")") >= 0) {
                items(s, all, 0);
                // Of shorts this is refused.
                tell(s, all, "mark(" + sheet + ", 0, NONE)");
            }
        }
    }
}
