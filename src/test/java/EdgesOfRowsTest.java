/** Terms, part 5, and promises 38 to 42: the edges of rows and images, a sentence of the document ahead of its calls. */
public final class EdgesOfRowsTest {
    public static void main(String[] args) {
        sixtyWait();
        noneWaitThen();
        hoursTold();
        firstThatIsNot();
        thirtyHours();
        fewerHours();
        byTheImage();
        keepsAllBut();
        leavesOut();
        againAndAgain();
        imageOfNothing();
        imageOfAll();
        counts();
        Edge.ends("EdgesOfRowsTest");
    }

    private static Script tells(Script s, int... row) {
        for (int v : row) {
            s.on("tell(" + v + ")");
        }
        return s;
    }

    private static void sixtyWait() {
        Edge.says("One more number waits: how many. FULL: 60 wait.");
        Script s = Edge.fresh("count(9) = 0");
        for (int k = 1; k <= 60; k++) {
            s.on("tell(" + (k % 2 == 0 ? "MOST" : "LEAST") + ") = " + k);
        }
        s.on("tell(0) = FULL; tell(LEAST) = FULL; count(9) = 60; check(30) = NO; count(9) = 0; tell(0) = 1; count(9) = 1");
    }

    private static void noneWaitThen() {
        Edge.says("The numbers that wait (none do then, whatever is answered)");
        Edge.fresh("tell(1) = 1; check(0) = BAD; count(9) = 0; tell(1) = 1; check(31) = BAD; count(9) = 0; tell(1) = 1; check(1) = NO; count(9) = 0",
            "keep() = 0; tell(99) = 1; tell(10000) = 2; check(1) = 0; count(9) = 0; check(1) = 1; tell(99) = 1; check(1) = 2; count(9) = 0; tell(98) = 1; check(1) = 1; count(9) = 0; tell(5) = 1; check(LEAST) = BAD; count(9) = 0");

        Edge.says("BAD; NO: there is no IMAGE.");
        Edge.fresh("check(0) = BAD; check(31) = BAD; check(-1) = BAD; check(MOST) = BAD; check(1) = NO; check(30) = NO; keep() = 0; check(0) = BAD; check(31) = BAD; check(1) = 1");
    }

    private static void hoursTold() {
        Edge.says("the WAGON to which they come (99: they do not); LOST, and WOOD times 100, together, behind each");
        tells(Edge.fresh("keep() = 0"), 99, 10000).on("check(1) = 0");
        tells(Edge.wagons(1).on("plain(1, 0); keep() = 1"), 99, 10000).on("check(1) = 0");
        tells(Edge.wagons(1).on("plain(1, 1); keep() = 1"), 0, 10000).on("check(1) = 0");
        tells(Edge.wagons(1).on("plain(0, 0); keep() = 1"), 0, 0).on("check(1) = 0");
        tells(Edge.wagons(1).on("plain(0, 9999); keep() = 1"), 0, 999900).on("check(1) = 0");
        Script last = Edge.wagons(12);
        for (int k = 0; k < 11; k++) {
            last.on("lays(" + k + ", 2, 1)");
        }
        tells(last.on("keep() = 12"), 11, 10000, 0, 10000).on("check(2) = 0");
        // One is taken in the first hour; then there is none, and they are driven off.
        tells(Edge.fresh("wagon(1) = 0; lays(0, 1, 2); plain(0, 3); keep() = 1"), 0, 101, 0, 101, 0, 101).on("check(3) = 0");
        tells(Edge.fresh("wagon(9) = 0; hours(3) = 3; keep() = 1"), 0, 10004, 0, 10005).on("check(2) = 0; night(0) = 3");
        // They come to where they were driven off in this very hour, not to where they would come next.
        tells(Edge.wagons(2).on("keep() = 2"), 0, 10000, 1, 10000, 0, 10000).on("check(3) = 0");
    }

    private static void firstThatIsNot() {
        Edge.says("two by two: 0; else 1 and how many stand right ahead of the first that is not (or is missing, or one too many)");
        int[] right = {0, 10000, 1, 10000, 0, 10000};
        for (int k = 0; k <= right.length; k++) {
            Script s = Edge.wagons(2).on("keep() = 2");
            tells(s, java.util.Arrays.copyOf(right, k)).on("check(3) = " + (k == 6 ? 0 : k + 1));
        }
        for (int k = 0; k < right.length; k++) {
            for (int by : new int[] {1, -1, 100, Integer.MIN_VALUE}) {
                int[] row = right.clone();
                row[k] += by;
                tells(Edge.wagons(2).on("keep() = 2"), row).on("check(3) = " + (k + 1));
            }
        }
        tells(Edge.wagons(2).on("keep() = 2"), right).on("check(2) = 5");
        tells(Edge.wagons(2).on("keep() = 2"), right).on("check(1) = 3");
        tells(Edge.wagons(2).on("keep() = 2"), right).on("check(4) = 7");
        tells(Edge.wagons(2).on("keep() = 2"), 0, 10000, 1).on("check(1) = 3");
        tells(Edge.wagons(2).on("keep() = 2"), 0, 10001, 1).on("check(1) = 2");
        Edge.wagons(2).on("keep() = 2; check(1) = 1; check(30) = 1");
    }

    private static void thirtyHours() {
        Edge.says("THE HOURS TOLD of n (1 .. 30; fewer, if THE HOUR would be above 9999)");
        int[] row = new int[60];
        for (int k = 0; k < 30; k++) {
            row[2 * k] = 99;
            row[2 * k + 1] = 999900 - 100 * (k + 1);
        }
        String camp = "wagon(0) = 0; lays(0, 1, 1); plain(0, 9999); plain(1, 0); keep() = 1";
        tells(Edge.fresh(camp), row).on("check(30) = 0");
        tells(Edge.fresh(camp), row).on("check(29) = 59");
        tells(Edge.fresh(camp), row).on("check(31) = BAD; count(9) = 0; check(30) = 1");
        tells(Edge.fresh(camp), java.util.Arrays.copyOf(row, 59)).on("check(30) = 60");
        tells(Edge.fresh(camp), java.util.Arrays.copyOf(row, 58)).on("check(30) = 59");
        tells(Edge.fresh(camp), java.util.Arrays.copyOf(row, 58)).on("check(29) = 0");
        int[] wrong = row.clone();
        wrong[59]++;
        tells(Edge.fresh(camp), wrong).on("check(30) = 60");
        tells(Edge.fresh(camp), 99, 999800).on("check(1) = 0; check(0) = BAD; count(6) = 0; count(3) = 9999");
    }

    private static void fewerHours() {
        Edge.says("fewer, if THE HOUR would be above 9999");
        Script s = new Script();
        for (int k = 0; k < 33; k++) {
            s.on("hours(300)");
        }
        s.on("hours(97); count(6) = 9997; keep() = 0");
        tells(s, 99, 10000, 99, 10000).on("check(30) = 0");
        tells(s, 99, 10000, 99, 10000).on("check(3) = 0");
        tells(s, 99, 10000, 99, 10000).on("check(2) = 0");
        tells(s, 99, 10000, 99, 10000).on("check(1) = 3");
        tells(s, 99, 10000, 99, 10000, 99, 10000).on("check(3) = 5");
        tells(s, 99, 10000, 99).on("check(30) = 4");
        // What counts is the hour of the image, not the one that it is now.
        s.on("hours(2); count(6) = 9999");
        tells(s, 99, 10000, 99, 10000).on("check(30) = 0");
        s.on("keep() = 0; check(30) = 0; check(1) = 0; check(31) = BAD");
        tells(s, 99).on("check(30) = 1");
        tells(s, 99, 10000).on("check(1) = 1");
        s.on("back() = 0; count(6) = 9999");
    }

    private static void byTheImage() {
        Edge.says("THE HOURS TOLD: of n HOURS, one behind the other, by THE IMAGE");
        Script s = Edge.wagons(2).on("keep() = 2; plain(0, 7); plain(1, 0); wagon(5) = 2; hours(9)");
        tells(s, 0, 10000, 1, 10000).on("check(2) = 0; count(3) = 7; count(0) = 3; count(6) = 9");
        tells(s, 99, 700).on("check(1) = 1; keep() = 3");
        tells(s, 99, 700).on("check(1) = 0");
        // The texts of the image, not those that are told behind it.
        Script t = Edge.wagons(2).on("'fear 5-t'; keep() = 2; 'fear 0'; lays(1, 2, 9)");
        tells(t, 0, 10000, 0, 10000).on("check(2) = 0; why(1) = 1; back(); why(1) = 0; count(8) = 1");
    }

    private static void keepsAllBut() {
        Edge.says("AN IMAGE keeps all but SHEETS, SLOTS, numbers that wait, THE TAPE");
        String[] told = {"count(0)", "count(1)", "count(2)", "count(3)", "count(4)", "count(5)", "count(6)", "count(7)", "count(8)", "count(11)",
            "night(0)", "night(1)", "night(2)", "night(3)", "why(0)", "why(1)", "why(2)", "textTold(0, 0)", "textTold(0, 1)", "textTold(1, 0)",
            "at(0, 0)", "at(0, 1)", "at(0, 2)", "at(0, 3)", "at(0, 4)", "at(0, 5)", "at(1, 0)", "at(2, 0)",
            "told(0, 0)", "told(0, 1)", "told(0, 2)", "told(0, 3)", "told(0, 4)", "told(0, 5)", "told(0, 6)", "told(1, 0)", "told(2, 0)"};
        String[] acts = {"wagon(4)", "lays(0, 0, 77)", "lays(0, 1, 7)", "lays(0, 2, 77)", "plain(0, 77)", "plain(1, 77)", "plain(2, 77)",
            "watcher(0, 0, 1)", "turns(0, 4)", "set(0, 1, 1)", "set(0, 2, 2)", "set(0, 3, 77)", "set(0, 4, 0)", "deal(3)", "seed(77)", "hours(7)",
            "hours(300)", "'light 50'", "'fear 50'", "'tire 50'"};
        for (String act : acts) {
            Script s = Edge.fresh("wagon(9) = 0; wagon(8) = 1; lays(0, 1, 2); watcher(3, 0, 9) = 0; watcher(2, 1, 3) = 1; set(0, 4, 1); 'light f*5' = 0; hours(3); keep() = 2");
            int[] was = new int[told.length];
            for (int k = 0; k < told.length; k++) {
                was[k] = s.answer(told[k]);
            }
            boolean otherwise = false;
            s.answer(act);
            for (int k = 0; k < told.length; k++) {
                otherwise |= s.answer(told[k]) != was[k];
            }
            Due.holds(act + " can be seen", otherwise);
            s.on("back() = 2");
            for (int k = 0; k < told.length; k++) {
                Edge.is(act + ", back(), " + told[k], s.answer(told[k]), was[k]);
            }
        }
    }

    private static void leavesOut() {
        Edge.says("all but SHEETS, SLOTS, numbers that wait, THE TAPE");
        Edge.fresh("""
            watcher(0, 0, 4) = 0; sheet(1, 0, 1) = 1; mark(1, 0, 3); lay(2, 3, 9) = 0; tell(1) = 1; feed(1818847080, 1948268320, 538976288) = 12; keep() = 0
            sheet(0, 0, 2) = 2; mark(1, 0, 5); lay(0, 1, 0) = 0; lay(2, 3, 8) = 3; tell(2) = 2; feed(538976288, 538976288, 538976288) = 24; back() = 0
            reads(0) = 0; lay(3, 2, 1) = 0; item(3, 0) = 5; ask(0, 0) = 4; rest(2, 10) = 8; count(9) = 2; count(10) = 24; text() = 0
            back() = 0; count(8) = 0; count(10) = 0; item(3, 0) = 5
            """);
    }

    private static void againAndAgain() {
        Edge.says("all can become as it is (again and again)");
        Edge.says("All is as THE IMAGE: how many WAGONS. NO: there is none.");
        Script s = Edge.fresh("back() = NO; wagon(5) = 0; back() = NO; count(0) = 1; keep() = 1");
        for (int again = 0; again < 3; again++) {
            s.on("wagon(1) = 1; lays(0, 0, 99); hours(2); back() = 1; count(0) = 1; at(0, 0) = 5; count(6) = 0; at(1, 0) = BAD");
        }
        s.on("back() = 1; back() = 1; wagon(6) = 1; keep() = 2; back() = 2; at(1, 0) = 6; keep() = 2; keep() = 2");
        // What comes behind back() is new, whatever stood in its place.
        Edge.fresh("wagon(5) = 0; keep() = 1; wagon(1) = 1; lays(1, 1, 9); lays(1, 2, 9); watcher(0, 0, 9) = 0; set(0, 3, 9); set(0, 4, 1); 'light 9' = 0; back() = 1",
            "at(0, 3) = 0; dark(1) = 1; count(2) = 0; wagon(2) = 1; at(1, 0) = 2; at(1, 1) = 0; at(1, 2) = 0; watcher(1, 0, 1) = 0; told(0, 3) = 0; told(0, 4) = 0; 'fear 7' = 0; textTold(0, 0) = 1; why(0) = NONE");
    }

    private static void imageOfNothing() {
        Edge.says("AN IMAGE is kept: how many WAGONS.");
        Edge.fresh("keep() = 0; wagon(1) = 0; watcher(0, 0, 1) = 0; 'light 1'; hours(5); seed(9); plain(0, 1); back() = 0",
            "count(0) = 0; count(1) = 0; count(2) = 0; count(3) = 100; count(4) = 3; count(5) = 5; count(6) = 0; count(7) = 0; count(8) = 0; count(11) = 1; night(0) = 0; night(1) = 0; night(2) = 0; night(3) = NONE; why(0) = NONE");
        Script s = new Script();
        for (int k = 0; k < 12; k++) {
            s.on("keep() = " + k, "wagon(0) = " + k, "back() = " + k, "wagon(0) = " + k);
        }
        s.on("keep() = 12; back() = 12; wagon(0) = FULL");
    }

    private static void imageOfAll() {
        Edge.says("AN IMAGE keeps all");
        Script s = new Script();
        for (int k = 0; k < 12; k++) {
            s.on("wagon(" + (99 - k) + ") = " + k, "lays(" + k + ", 1, " + k % 10 + ")", "lays(" + k + ", 2, " + (k + 80) + ")");
        }
        for (int k = 0; k < 8; k++) {
            s.on("watcher(" + k % 6 + ", " + (k + 4) + ", " + (k + 2) + ") = " + k, "set(" + k + ", 3, " + (999 - k) + "); set(" + k + ", 4, " + k % 2 + ")");
        }
        for (int k = 0; k < 14; k++) {
            s.on("'" + new String[] {"light ", "fear ", "tire "}[k % 3] + k + "' = " + k);
        }
        s.on("keep() = 12");
        for (int k = 0; k < 12; k++) {
            s.on("lays(" + k + ", 0, 0); lays(" + k + ", 1, 0); lays(" + k + ", 2, 0)");
        }
        for (int k = 0; k < 8; k++) {
            s.on("turns(" + k + ", 5); set(" + k + ", 1, 0); set(" + k + ", 2, 1); set(" + k + ", 3, 0); set(" + k + ", 4, 0)");
        }
        s.on("hours(1); back() = 12; count(7) = 1122; why(0) = 12; why(1) = 13; why(2) = 11; 'light 1' = FULL");
        for (int k = 0; k < 12; k++) {
            s.on("at(" + k + ", 0) = " + (99 - k), "at(" + k + ", 1) = " + k % 10, "at(" + k + ", 2) = " + (k + 80));
        }
        for (int k = 0; k < 8; k++) {
            s.on("told(" + k + ", 0) = " + k % 6, "told(" + k + ", 1) = " + (k + 4), "told(" + k + ", 2) = " + (k + 2), "told(" + k + ", 3) = " + (999 - k), "told(" + k + ", 4) = " + k % 2);
        }
    }

    private static void counts() {
        Edge.says("0 how many WAGONS, 1 WATCHERS, 2 who are ON, 3 WOOD, 4 WOLVES, 5 HUNGER, 6 THE HOUR, 7 FOALS of all, together, 8 TEXTS, 9 numbers that wait, 10 bytes of THE TAPE, 11 z. BAD.");
        Edge.fresh("count(-1) = BAD; count(12) = BAD; count(LEAST) = BAD; count(MOST) = BAD; count(0) = 0; count(1) = 0; count(2) = 0; count(3) = 100; count(4) = 3; count(5) = 5; count(6) = 0; count(7) = 0; count(8) = 0; count(9) = 0; count(10) = 0; count(11) = 1");
        Script s = new Script();
        for (int k = 0; k < 12; k++) {
            s.on("wagon(99) = " + k);
        }
        for (int k = 0; k < 8; k++) {
            s.on("watcher(0, 0, 1) = " + k, "set(" + k + ", 4, 1)", "count(2) = " + (k + 1));
        }
        s.on("count(7) = 1188; count(2) = 8; set(7, 4, 0); count(2) = 7; seed(LEAST); count(11) = LEAST; seed(BAD); count(11) = BAD");
    }
}
