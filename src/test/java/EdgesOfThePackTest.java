/** Terms, part 2: the edges of the pack, of an hour and of draws, a sentence of the document ahead of its calls. */
public final class EdgesOfThePackTest {
    public static void main(String[] args) {
        thePack();
        theHour();
        fearsAreHeld();
        firesBurn();
        whenTheyCome();
        theLeastFears();
        takesOrNot();
        drivenOff();
        tires();
        sleeps();
        eachHour();
        draws();
        drawnWatchers();
        Edge.ends("EdgesOfThePackTest");
    }

    private static void thePack() {
        Edge.says("WOLVES 0 .. 99 (3 at first), HUNGER 0 .. 99 (5)");
        Edge.fresh("""
            count(4) = 3; plain(1, -1) = BAD; plain(1, 100) = BAD; count(4) = 3; plain(1, 0) = 3; count(4) = 0; plain(1, 99) = 0; count(4) = 99
            count(5) = 5; plain(2, -1) = BAD; plain(2, 100) = BAD; count(5) = 5; plain(2, 0) = 5; count(5) = 0; plain(2, 99) = 0; count(5) = 99
            plain(-1, 5) = BAD; plain(3, 5) = BAD; count(3) = 100; count(4) = 99; count(5) = 99
            """);
    }

    /** A new object whose hour is 9900. */
    private static Script late() {
        Script s = new Script();
        for (int k = 0; k < 33; k++) {
            s.on("hours(300) = 0");
        }
        return s.on("count(6) = 9900");
    }

    private static void theHour() {
        Edge.says("THE HOUR is 0 at first, 9999 at most; SLEPT, LOST, BURNT are 0 at first");
        Edge.fresh("count(6) = 0; night(0) = 0; night(1) = 0; night(2) = 0; hours(1) = 0; count(6) = 1");
        late().on("wagon(99) = 0; lays(0, 1, 1); plain(0, 9999); plain(1, 99); watcher(0, 1, 1) = 0",
            "hours(98) = 98; count(6) = 9998; night(1) = 98; night(2) = 98",
            "hours(2) = 1; count(6) = 9999; night(0) = 99; night(1) = 99; night(2) = 99; count(3) = 9900",
            "lays(0, 0, 9); hours(1) = 0; hours(300) = 0; count(6) = 9999; night(0) = 99; night(1) = 99; night(2) = 99; count(3) = 9900; at(0, 0) = 9");

        Edge.says("(no more than up to 9999)");
        late().on("hours(99) = 0; count(6) = 9999; hours(1) = 0; count(6) = 9999");
        late().on("hours(100) = 0; count(6) = 9999");
        late().on("hours(98) = 0; count(6) = 9998; hours(1) = 0; count(6) = 9999");
        late().on("hours(98) = 0; hours(300) = 0; count(6) = 9999; hours(0) = BAD; hours(301) = BAD; count(6) = 9999");
    }

    private static void fearsAreHeld() {
        Edge.says("FEARS of a WAGON: what fear gives, held within 0 .. 999 (without a TEXT: GUARD, and TRIED)");
        Script s = Edge.fresh("wagon(1) = 0; at(0, 5) = 0; lays(0, 2, 99); at(0, 5) = 99; 'light 99'; at(0, 5) = 198");
        for (int k = 0; k < 8; k++) {
            s.on("watcher(4, 0, 9) = " + k, "set(" + k + ", 4, 1)");
        }
        s.on("at(0, 5) = 294; 'fear t*9+h'; plain(2, 99); at(0, 5) = 990; 'fear t*10+h-90'; at(0, 5) = 999; plain(2, 98); at(0, 5) = 998");
        Edge.fresh("""
            wagon(1) = 0; 'fear 999'; at(0, 5) = 999; 'fear 1000'; at(0, 5) = 999; 'fear 998'; at(0, 5) = 998
            'fear 1-t'; at(0, 5) = 1; lays(0, 2, 1); at(0, 5) = 0; lays(0, 2, 2); at(0, 5) = 0
            'fear 2*1024*1024*1024'; at(0, 5) = 0; 'fear 2*1024*1024*1024-1'; at(0, 5) = 999
            """);
    }

    private static void firesBurn() {
        Edge.says("FIRES burn, by numbers: WOOD is less by FIRE of each; one for which there is not enough is 0 from now on (it burns none)");
        Edge.wagons(1).on("lays(0, 1, 9); plain(0, 9); hours(1); at(0, 1) = 9; count(3) = 0; night(2) = 9",
            "hours(1); at(0, 1) = 0; count(3) = 0; night(2) = 9; plain(0, 50); hours(1); at(0, 1) = 0; count(3) = 50; night(2) = 9");
        Edge.wagons(1).on("lays(0, 1, 9); plain(0, 8); hours(1); at(0, 1) = 0; count(3) = 8; night(2) = 0");
        Edge.wagons(1).on("lays(0, 1, 1); plain(0, 0); hours(1); at(0, 1) = 0; count(3) = 0");
        Edge.wagons(1).on("plain(0, 0); hours(1); at(0, 1) = 0; count(3) = 0; night(2) = 0");
        Edge.wagons(3).on("lays(0, 1, 4); lays(1, 1, 7); lays(2, 1, 6); plain(0, 10); hours(1)",
            "at(0, 1) = 4; at(1, 1) = 0; at(2, 1) = 6; count(3) = 0; night(2) = 10");
        Edge.wagons(12).on("lays(0, 1, 9); lays(11, 1, 9); plain(0, 17); hours(1); at(0, 1) = 9; at(11, 1) = 0; count(3) = 8; night(2) = 9");

        Edge.says("BURNT is as much more as was burnt");
        Edge.wagons(12).on("lays(0, 1, 9); lays(11, 1, 9); plain(0, 9999); hours(1); night(2) = 18; hours(299); night(2) = 5400; count(3) = 4599");
    }

    private static void whenTheyCome() {
        Edge.says("If there are WAGONS, and WOLVES (above 0)");
        Edge.fresh("plain(1, 99); hours(1) = 0; count(5) = 5; count(6) = 1; night(3) = NONE");
        Edge.fresh("wagon(5) = 0; plain(1, 0); hours(1) = 0; count(5) = 5; at(0, 2) = 0; at(0, 0) = 5; night(3) = NONE");
        Edge.fresh("wagon(5) = 0; plain(1, 1); hours(1) = 1; count(5) = 0; at(0, 0) = 4; night(3) = 0");
        Edge.fresh("wagon(0) = 0; plain(1, 1); hours(1) = 0; count(5) = 6; at(0, 2) = 1");
    }

    private static void theLeastFears() {
        Edge.says("they come to the WAGON with the least FEARS (of several the least number)");
        Script s = Edge.wagons(12).on("night(3) = 0; hours(1); at(0, 2) = 1; night(3) = 1; hours(1); at(1, 2) = 1; night(3) = 2");
        s.on("hours(9); night(3) = 11; hours(1); at(11, 2) = 1; night(3) = 0; hours(1); at(0, 2) = 2; at(1, 2) = 1");
        Edge.wagons(3).on("lays(0, 2, 5); lays(1, 2, 4); lays(2, 2, 4); night(3) = 1; lays(2, 2, 3); night(3) = 2; hours(1); at(2, 2) = 4; night(3) = 1");
        Edge.wagons(3).on("'fear 2000-t'; lays(2, 2, 99); at(2, 5) = 999; night(3) = 0; hours(1); at(0, 2) = 1; at(2, 2) = 99");
        Edge.wagons(3).on("'fear 0-t'; lays(2, 2, 99); at(2, 5) = 0; night(3) = 0; hours(1); at(0, 2) = 1; at(2, 2) = 99");
        Edge.wagons(3).on("'fear 1098-t'; lays(1, 2, 99); at(1, 5) = 999; night(3) = 0; 'fear 1097-t'; at(1, 5) = 998; night(3) = 1");
        // The fires of the hour burn first: wagon 0 is dark when they come.
        Edge.wagons(2).on("lays(0, 1, 9); plain(0, 8); night(3) = 1; hours(1); at(0, 2) = 1; at(1, 2) = 0");
    }

    private static void takesOrNot() {
        Edge.says("If its GUARD is less than WOLVES and HUNGER together, they take a FOAL, if there is one (FOALS 1 less, LOST 1 more, HUNGER 0), TRIED of it is 0");
        Script[] as = new Script[3];
        for (int k = 0; k < 3; k++) {
            as[k] = Edge.fresh("wagon(2) = 0; lays(0, 2, 7); plain(0, 8); 'light w'; plain(0, " + (7 + k) + "); at(0, 4) = " + (7 + k));
        }
        as[0].on("hours(1) = 1; at(0, 0) = 1; night(0) = 1; count(5) = 0; at(0, 2) = 0; count(4) = 3");
        as[1].on("hours(1) = 0; at(0, 0) = 2; night(0) = 0; count(5) = 6; at(0, 2) = 8; hours(1) = 1; at(0, 2) = 0");
        as[2].on("hours(1) = 0; at(0, 0) = 2; count(5) = 6; at(0, 2) = 8; hours(1) = 0; hours(1) = 1");
        Edge.fresh("wagon(1) = 0; hours(1) = 1; at(0, 0) = 0; hours(1) = 0; at(0, 0) = 0; night(0) = 1; count(5) = 1; at(0, 2) = 1");
        Edge.fresh("wagon(99) = 0; lays(0, 2, 99); plain(1, 99); plain(2, 99); hours(1) = 1; at(0, 0) = 98; at(0, 2) = 0; count(5) = 0");
        // Wolves and hunger are 198 at most, guard 195: none of them is held together.
        Script most = Edge.fresh("wagon(1) = 0; 'light 99'; plain(1, 97); plain(2, 98)");
        for (int k = 0; k < 8; k++) {
            most.on("watcher(4, 0, 9) = " + k, "set(" + k + ", 4, 1)");
        }
        most.on("at(0, 4) = 195; loss() = 2; plain(1, 98); loss() = 1; hours(1) = 1; at(0, 4) = 171");
    }

    private static void drivenOff() {
        Edge.says("else they are driven off: TRIED of it is 1 more (99 at most), HUNGER 1 more (99 at most); so also if there is no FOAL to take");
        Edge.fresh("wagon(5) = 0; 'light 99'; plain(1, 1); lays(0, 2, 97); plain(2, 96)",
            "hours(1) = 0; at(0, 2) = 98; count(5) = 97; hours(1) = 0; at(0, 2) = 99; count(5) = 98; at(0, 0) = 5",
            "hours(1) = 0; at(0, 2) = 99; count(5) = 99; hours(1) = 1; at(0, 2) = 0; count(5) = 0; at(0, 0) = 4");
        Edge.fresh("wagon(0) = 0; plain(1, 99); plain(2, 98); lays(0, 2, 98); hours(1) = 0; at(0, 2) = 99; count(5) = 99",
            "hours(1) = 0; at(0, 2) = 99; count(5) = 99; night(0) = 0; at(0, 0) = 0");
        Edge.fresh("wagon(0) = 0; hours(300) = 0; at(0, 2) = 99; count(5) = 99");
    }

    private static void tires() {
        Edge.says("ON: TIRED is what tire gives more, held within 0 .. 99 (without a TEXT: 1; 999 at most)");
        Edge.fresh("watcher(0, 0, 5) = 0; set(0, 4, 1); hours(1); told(0, 3) = 1; set(0, 3, 998); hours(1); told(0, 3) = 999; hours(1); told(0, 3) = 999",
            "night(1) = 0; set(0, 3, 997); hours(2); told(0, 3) = 999");
        String[][] due = {{"98", "0", "98"}, {"99", "0", "99"}, {"100", "0", "99"}, {"9999", "0", "99"}, {"99", "900", "999"},
            {"99", "901", "999"}, {"99", "899", "998"}, {"100", "999", "999"}, {"0", "7", "7"}, {"0-1", "7", "7"}, {"1", "999", "999"},
            {"0-9999", "999", "999"}, {"2*1024*1024*1024", "7", "7"}, {"2*1024*1024*1024-1", "7", "106"}, {"t", "99", "198"},
            {"t", "100", "199"}, {"e-t", "9", "9"}, {"e-t", "8", "9"}, {"e-t", "10", "10"}};
        for (String[] d : due) {
            Edge.fresh("watcher(2, 0, 9) = 0; set(0, 4, 1); 'tire " + d[0] + "' = 0; set(0, 3, " + d[1] + "); hours(1); told(0, 3) = " + d[2]);
        }
    }

    private static void sleeps() {
        Edge.says("else TIRED is 2 less (0 at least), and SLEPT 1 more");
        int[][] due = {{0, 0}, {1, 0}, {2, 0}, {3, 1}, {4, 2}, {999, 997}};
        for (int[] d : due) {
            Edge.fresh("watcher(0, 0, 5) = 0; 'tire 99'; set(0, 3, " + d[0] + "); hours(1); told(0, 3) = " + d[1], "night(1) = 1");
        }
        Script s = new Script();
        for (int k = 0; k < 8; k++) {
            s.on("watcher(0, 11, 5) = " + k);
        }
        s.on("hours(1); night(1) = 8; set(7, 4, 1); hours(1); night(1) = 15; hours(299); night(1) = 2108; told(7, 3) = 300");
    }

    private static void eachHour() {
        Edge.says("THE HOUR is 1 more");
        Edge.fresh("hours(1) = 0; count(6) = 1; hours(300) = 0; count(6) = 301; hours(0) = BAD; hours(301) = BAD; hours(-1) = BAD; count(6) = 301");
    }

    /** z behind one draw more, worked out without ints that wrap. */
    private static int next(int z) {
        return (int) Math.floorMod(z * 1103515245L + 12345L, 1L << 32);
    }

    private static void draws() {
        Edge.says("z is told (1 at first). A draw: z becomes z * 1103515245 + 12345 (an int); it gives z >>> 8");
        Edge.fresh("count(11) = 1; seed(LEAST) = 1; count(11) = LEAST; seed(MOST) = LEAST; count(11) = MOST; seed(0) = MOST; seed(-1) = 0; count(11) = -1");
        for (int seed : new int[] {0, 1, -1, Integer.MAX_VALUE, Integer.MIN_VALUE, 123456789, -987654321}) {
            int one = next(seed);
            int two = next(one);
            int three = next(two);
            Edge.fresh("seed(" + seed + "); deal(1) = 1; count(11) = " + three, "told(0, 0) = " + (one >>> 8) % 6,
                "told(0, 1) = " + (two >>> 8) % 12, "told(0, 2) = " + (1 + (three >>> 8) % 9));
        }
    }

    private static void drawnWatchers() {
        Edge.says("WATCHERS that are drawn: KIND the rest of a draw by 6, AT that of one more by 12, EYES 1 and that of one more by 9");
        boolean[][] seen = new boolean[3][12];
        for (int seed = 0; seed < 40; seed++) {
            Script s = Edge.fresh("seed(" + seed * 1000003 + "); deal(8) = 8");
            int z = seed * 1000003;
            for (int k = 0; k < 8; k++) {
                int[] due = new int[3];
                for (int d = 0; d < 3; d++) {
                    z = next(z);
                    due[d] = (z >>> 8) % (d == 0 ? 6 : d == 1 ? 12 : 9) + (d == 2 ? 1 : 0);
                    seen[d][due[d]] = true;
                }
                s.on("told(" + k + ", 0) = " + due[0], "told(" + k + ", 1) = " + due[1], "told(" + k + ", 2) = " + due[2],
                    "told(" + k + ", 3) = 0; told(" + k + ", 4) = 0");
            }
        }
        Due.holds("the least and the most of each came", seen[0][0] && seen[0][5] && seen[1][0] && seen[1][11] && seen[2][1] && seen[2][9]);

        Edge.says("as many as there is room for (no draws for others): how many came. BAD.");
        Script s = Edge.fresh("deal(0) = BAD; deal(9) = BAD; deal(-1) = BAD; count(11) = 1; count(1) = 0; deal(1) = 1; deal(8) = 7; count(1) = 8");
        int z = 1;
        for (int k = 0; k < 24; k++) {
            z = next(z);
        }
        s.on("count(11) = " + z, "deal(1) = 0; deal(8) = 0; count(11) = " + z, "count(1) = 8; deal(9) = BAD");
        Edge.fresh("deal(8) = 8; count(11) = " + z);
    }
}
