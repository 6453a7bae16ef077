/** Terms, part 1: the edges of wagons and watchers, a sentence of the document ahead of the calls that it binds. */
public final class EdgesOfTheRingTest {
    private static final String[] KINDS = {"WATCHER", "OLD", "DOG", "LAME", "BITCH", "BOY"};

    public static void main(String[] args) {
        twelveWagons();
        nextToOneAnother();
        boundsOfAWagon();
        far();
        nextFires();
        lightIsHeld();
        wood();
        eightWatchers();
        kinds();
        seesAsWatcher();
        seesAsOld();
        seesAsLame();
        seesAsDog();
        seesAsBitch();
        seesAsBoy();
        seesNothing();
        worth();
        asTheOneAbove();
        guard();
        Edge.ends("EdgesOfTheRingTest");
    }

    private static void twelveWagons() {
        Edge.says("THE RING is of WAGONS, 12 at most, numbered from 0");
        Script s = Edge.fresh("at(0, 0) = BAD");
        for (int k = 0; k < 12; k++) {
            s.on("count(0) = " + k, "wagon(" + k + ") = " + k, "at(" + k + ", 0) = " + k, "at(" + (k + 1) + ", 0) = BAD");
        }
        s.on("wagon(0) = FULL; wagon(99) = FULL; count(0) = 12; count(7) = 66; at(12, 0) = BAD; at(-1, 0) = BAD");
    }

    private static void nextToOneAnother() {
        Edge.says("each next to the ones with the next lesser and greater numbers, the last one to the first");
        Edge.wagons(12).on("""
            lays(0, 1, 1)
            at(0, 3) = 2; at(1, 3) = 1; at(2, 3) = 0; at(10, 3) = 0; at(11, 3) = 1
            lays(11, 1, 4)
            at(0, 3) = 6; at(1, 3) = 1; at(9, 3) = 0; at(10, 3) = 4; at(11, 3) = 9
            """);
        Edge.wagons(3).on("""
            lays(0, 1, 1); lays(1, 1, 2); lays(2, 1, 4)
            at(0, 3) = 8; at(1, 3) = 9; at(2, 3) = 11
            wagon(0) = 3
            at(0, 3) = 4; at(1, 3) = 9; at(2, 3) = 10; at(3, 3) = 5
            """);
    }

    private static void boundsOfAWagon() {
        Edge.says("FOALS 0 .. 99, FIRE 0 .. 9 (0: none), TRIED 0 .. 99 (0 at first)");
        Edge.fresh("""
            wagon(-1) = BAD; wagon(100) = BAD; count(0) = 0
            wagon(0) = 0; wagon(99) = 1
            at(0, 0) = 0; at(0, 1) = 0; at(0, 2) = 0; at(1, 0) = 99; at(1, 1) = 0; at(1, 2) = 0
            lays(0, 0, 100) = BAD; lays(0, 0, -1) = BAD; at(0, 0) = 0
            lays(0, 0, 99) = 0; at(0, 0) = 99; lays(0, 0, 0) = 99; at(0, 0) = 0
            lays(0, 1, 10) = BAD; lays(0, 1, -1) = BAD; at(0, 1) = 0
            lays(0, 1, 9) = 0; at(0, 1) = 9; at(0, 3) = 18; lays(0, 1, 0) = 9; at(0, 1) = 0; at(0, 3) = 0
            lays(0, 2, 100) = BAD; lays(0, 2, -1) = BAD; at(0, 2) = 0
            lays(0, 2, 99) = 0; at(0, 2) = 99; lays(0, 2, 0) = 99; at(0, 2) = 0
            """);
    }

    private static void far() {
        Edge.says("FAR of two: the fewer steps round the ring from the one to the other");
        Edge.wagons(1).on("far(0, 0) = 0; far(0, 1) = BAD");
        Edge.wagons(2).on("far(0, 1) = 1; far(1, 0) = 1; far(1, 1) = 0");
        Edge.wagons(3).on("far(0, 1) = 1; far(0, 2) = 1; far(1, 2) = 1; far(2, 0) = 1");
        Edge.wagons(11).on("far(0, 5) = 5; far(0, 6) = 5; far(6, 0) = 5; far(10, 0) = 1; far(3, 9) = 5");
        Edge.wagons(12).on("far(0, 5) = 5; far(0, 6) = 6; far(0, 7) = 5; far(7, 0) = 5; far(11, 0) = 1; far(0, 11) = 1; far(2, 10) = 4",
            "far(11, 11) = 0; far(5, 11) = 6; far(4, 11) = 5; far(0, 12) = BAD; far(12, 0) = BAD; far(-1, 11) = BAD; far(11, -1) = BAD");
    }

    private static void nextFires() {
        Edge.says("(of two WAGONS the other one counts once; of one WAGON alone: 0)");
        Edge.wagons(1).on("lays(0, 1, 9); 'light n'; at(0, 3) = 0");
        Edge.wagons(2).on("lays(0, 1, 9); lays(1, 1, 4); 'light n'; at(0, 3) = 4; at(1, 3) = 9");
        Edge.wagons(3).on("lays(0, 1, 9); lays(1, 1, 4); lays(2, 1, 4); 'light n'; at(0, 3) = 8; at(1, 3) = 13; at(2, 3) = 13");
        Edge.wagons(1).on("lays(0, 1, 9); at(0, 3) = 18; wagon(0) = 1; at(0, 3) = 18; at(1, 3) = 9");
    }

    private static void lightIsHeld() {
        Edge.says("LIGHT at a WAGON: what light gives, held within 0 .. 99 (without a TEXT: twice its FIRE, and NEXT FIRES)");
        Edge.wagons(3).on("at(0, 3) = 0; lays(0, 1, 9); lays(1, 1, 9); lays(2, 1, 9); at(0, 3) = 36; at(1, 3) = 36; at(2, 3) = 36");
        Edge.wagons(1).on("""
            'light w' = 0
            plain(0, 0); at(0, 3) = 0; plain(0, 1); at(0, 3) = 1; plain(0, 98); at(0, 3) = 98; plain(0, 99); at(0, 3) = 99
            plain(0, 100); at(0, 3) = 99; plain(0, 9999); at(0, 3) = 99
            'light 5-w' = 1
            plain(0, 4); at(0, 3) = 1; plain(0, 5); at(0, 3) = 0; plain(0, 6); at(0, 3) = 0; plain(0, 9999); at(0, 3) = 0
            'light 2*1024*1024*1024' = 2; at(0, 3) = 0
            'light 2*1024*1024*1024-1' = 3; at(0, 3) = 99
            """);
    }

    private static void wood() {
        Edge.says("WOOD 0 .. 9999 (100 at first)");
        Edge.fresh("count(3) = 100; plain(0, -1) = BAD; plain(0, 10000) = BAD; count(3) = 100",
            "plain(0, 0) = 100; count(3) = 0; plain(0, 9999) = 0; count(3) = 9999; plain(0, 10000) = BAD; count(3) = 9999");
    }

    private static void eightWatchers() {
        Edge.says("WATCHERS, 8 at most, numbered from 0");
        Script s = Edge.fresh("told(0, 0) = BAD");
        for (int k = 0; k < 8; k++) {
            s.on("count(1) = " + k, "watcher(0, " + k + ", 1) = " + k, "told(" + k + ", 1) = " + k, "told(" + (k + 1) + ", 1) = BAD");
        }
        s.on("watcher(0, 0, 1) = FULL; watcher(5, 11, 9) = FULL; count(1) = 8; told(8, 0) = BAD; told(-1, 0) = BAD");

        Edge.says("AT a WAGON (0 .. 11, perhaps none that is there), EYES 1 .. 9, TIRED 0 .. 999 (0 at first), ON or not (not)");
        Edge.fresh("""
            watcher(0, -1, 1) = BAD; watcher(0, 12, 1) = BAD; watcher(0, 0, 0) = BAD; watcher(0, 0, 10) = BAD; count(1) = 0
            watcher(0, 0, 1) = 0; watcher(0, 11, 9) = 1
            told(0, 1) = 0; told(0, 2) = 1; told(0, 3) = 0; told(0, 4) = 0; told(1, 1) = 11; told(1, 2) = 9; count(2) = 0
            set(0, 1, -1) = BAD; set(0, 1, 12) = BAD; told(0, 1) = 0; set(0, 1, 11) = 0; told(0, 1) = 11; set(0, 1, 0) = 11; told(0, 1) = 0
            set(0, 2, 0) = BAD; set(0, 2, 10) = BAD; told(0, 2) = 1; set(0, 2, 9) = 1; told(0, 2) = 9; set(0, 2, 1) = 9; told(0, 2) = 1
            set(0, 3, -1) = BAD; set(0, 3, 1000) = BAD; told(0, 3) = 0; set(0, 3, 999) = 0; told(0, 3) = 999; set(0, 3, 0) = 999; told(0, 3) = 0
            set(0, 4, -1) = BAD; set(0, 4, 2) = BAD; told(0, 4) = 0; set(0, 4, 1) = 0; told(0, 4) = 1; count(2) = 1; set(0, 4, 0) = 1; told(0, 4) = 0
            told(1, 1) = 11; told(1, 2) = 9; told(1, 3) = 0; told(1, 4) = 0; count(2) = 0
            """);
    }

    private static void kinds() {
        Edge.says("0 WATCHER; 1 OLD, 2 DOG, 5 BOY, under WATCHER; 3 LAME, under OLD; 4 BITCH, under DOG (all are WATCHERS)");
        Edge.fresh("watcher(-1, 0, 1) = BAD; watcher(6, 0, 1) = BAD; count(1) = 0");
        String[] of = {"0", "0 1", "0 2", "0 1 3", "0 2 4", "0 5"};
        for (int kind = 0; kind < 6; kind++) {
            Script s = Edge.fresh("watcher(" + kind + ", 0, 9) = 0; lay(0, 1, 0) = 0");
            int worth = s.answer("told(0, 6)");
            for (int as = 0; as < 6; as++) {
                boolean is = of[kind].contains("" + as);
                Edge.is(KINDS[kind] + " as " + KINDS[as], s.answer("as(0, " + as + ")"), is ? 9 : Due.KIND);
                Edge.is(KINDS[kind] + " taken for " + KINDS[as], s.answer("ask(0, " + as + ")"), is ? worth : Due.KIND);
            }
            s.on("as(0, -1) = BAD; as(0, 6) = BAD; ask(0, -1) = BAD; ask(0, 6) = BAD");
        }
    }

    /** One wagon, whose light is as much as there is wood, and one watcher at it. */
    private static Script watched(int kind, int eyes) {
        return Edge.wagons(1).on("'light w'; plain(0, 0); watcher(" + kind + ", 0, " + eyes + ") = 0; told(0, 5) = 0; set(0, 4, 1); plain(1, 0)");
    }

    private static void sees(Script s, int tired, int light, int due) {
        s.on("set(0, 3, " + tired + "); plain(0, " + light + "); told(0, 5) = " + due, "at(0, 4) = " + (light + due));
    }

    private static void seesAsWatcher() {
        Edge.says("WATCHER: EYES, less TIRED / 10, 0 at least, and LIGHT there / 4, if ON");
        Script s = watched(0, 9);
        int[][] due = {{0, 9}, {9, 9}, {10, 8}, {19, 8}, {20, 7}, {89, 1}, {90, 0}, {99, 0}, {100, 0}, {999, 0}};
        for (int[] d : due) {
            sees(s, d[0], 0, d[1]);
            sees(s, d[0], 3, d[1]);
            sees(s, d[0], 4, d[1] + 1);
            sees(s, d[0], 7, d[1] + 1);
            sees(s, d[0], 99, d[1] + 24);
        }
        s.on("set(0, 4, 0); plain(0, 99); set(0, 3, 0); told(0, 5) = 0; at(0, 4) = 99");
        Script least = watched(0, 1);
        sees(least, 9, 0, 1);
        sees(least, 10, 0, 0);
        sees(least, 20, 4, 1);
    }

    private static void seesAsOld() {
        Edge.says("OLD: as WATCHER, half (cut)");
        int[] half = {0, 0, 1, 1, 2, 2, 3, 3, 4, 4};
        for (int eyes = 1; eyes <= 9; eyes++) {
            sees(watched(1, eyes), 0, 0, half[eyes]);
        }
        Script s = watched(1, 9);
        sees(s, 0, 99, 16);
        sees(s, 0, 4, 5);
        sees(s, 0, 3, 4);
        sees(s, 999, 4, 0);
        sees(s, 999, 8, 1);
        sees(s, 80, 0, 0);
        sees(s, 79, 0, 1);
        s.on("set(0, 4, 0); told(0, 5) = 0");
    }

    private static void seesAsLame() {
        Edge.says("LAME: as OLD, and 1, if ON");
        Script s = watched(3, 1);
        sees(s, 0, 0, 1);
        sees(s, 999, 0, 1);
        sees(s, 0, 4, 2);
        sees(s, 0, 99, 13);
        s.on("set(0, 4, 0); told(0, 5) = 0");
        sees(watched(3, 9), 0, 0, 5);
    }

    private static void seesAsDog() {
        Edge.says("DOG: EYES, if ON (TIRED and LIGHT do not count)");
        for (int eyes = 1; eyes <= 9; eyes += 8) {
            Script s = watched(2, eyes);
            sees(s, 0, 0, eyes);
            sees(s, 999, 0, eyes);
            sees(s, 999, 99, eyes);
            s.on("lays(0, 0, 99); told(0, 5) = " + eyes, "set(0, 4, 0); told(0, 5) = 0");
        }
    }

    private static void seesAsBitch() {
        Edge.says("BITCH: as DOG, and 3 if ON and FOALS there are above 0");
        Script s = watched(4, 9);
        sees(s, 0, 0, 9);
        sees(s, 999, 99, 9);
        s.on("lays(0, 0, 1); told(0, 5) = 12; lays(0, 0, 99); told(0, 5) = 12; set(0, 4, 0); told(0, 5) = 0; lays(0, 0, 0); told(0, 5) = 0");
        s.on("set(0, 4, 1); wagon(7) = 1; told(0, 5) = 9; set(0, 1, 1); told(0, 5) = 12");
    }

    private static void seesAsBoy() {
        Edge.says("BOY: as WATCHER, but 0 if TIRED is above 5");
        Script s = watched(5, 9);
        sees(s, 0, 0, 9);
        sees(s, 5, 0, 9);
        sees(s, 5, 99, 33);
        sees(s, 6, 0, 0);
        sees(s, 6, 99, 0);
        sees(s, 999, 99, 0);
        s.on("set(0, 3, 0); set(0, 4, 0); told(0, 5) = 0");
    }

    private static void seesNothing() {
        Edge.says("(All who are not ON, or AT no WAGON that is there, SEE 0.)");
        for (int kind = 0; kind < 6; kind++) {
            Script s = Edge.fresh("watcher(" + kind + ", 0, 8) = 0; set(0, 4, 1); told(0, 5) = 0; wagon(5) = 0; wagon(5) = 1; 'light 40'");
            int[] due = {18, 9, 8, 10, 11, 18};
            s.on("told(0, 5) = " + due[kind], "set(0, 1, 1); told(0, 5) = " + due[kind], "at(1, 4) = " + (40 + due[kind]));
            s.on("set(0, 1, 2); told(0, 5) = 0; set(0, 1, 11); told(0, 5) = 0; at(0, 4) = 40; at(1, 4) = 40");
            s.on("set(0, 1, 0); set(0, 4, 0); told(0, 5) = 0; at(0, 4) = 40");
            s.on("set(0, 1, 2); set(0, 4, 1); wagon(5) = 2; told(0, 5) = " + due[kind]);
        }
    }

    private static void worth() {
        Edge.says("WORTH: WATCHER: EYES. OLD: as WATCHER, and 4. LAME: twice as OLD. DOG: 20 less EYES. BITCH: as DOG, and 9. BOY: 2.");
        int[][] due = {{1, 9}, {5, 13}, {19, 11}, {10, 26}, {28, 20}, {2, 2}};
        for (int kind = 0; kind < 6; kind++) {
            Edge.fresh("watcher(" + kind + ", 0, 1) = 0; told(0, 6) = " + due[kind][0], "lay(0, 1, 0); ask(0, 0) = " + due[kind][0],
                "set(0, 2, 9); told(0, 6) = " + due[kind][1], "set(0, 3, 999); set(0, 4, 1); set(0, 1, 11); told(0, 6) = " + due[kind][1]);
        }
    }

    private static void asTheOneAbove() {
        Edge.says("(A KIND that is not named does as the one above it.)");
        Edge.says("A WATCHER as one of a KIND: EYES. BAD: watcher, kind; KIND: it is not of that KIND, nor of one under it.");
        // All kinds are named for SEES and WORTH; EYES are every kind's own, whatever it is taken for.
        Edge.fresh("as(0, 0) = BAD; as(0, 6) = BAD; watcher(3, 0, 1) = 0; as(0, 0) = 1; as(0, 1) = 1; as(0, 3) = 1; as(0, 2) = KIND; as(0, 4) = KIND; as(0, 5) = KIND; as(0, -1) = BAD; as(1, 0) = BAD; as(1, 6) = BAD; as(-1, 0) = BAD",
            "set(0, 2, 9); as(0, 0) = 9; as(0, 3) = 9; turns(0, 4) = 3; as(0, 2) = 9; as(0, 4) = 9; as(0, 1) = KIND; as(0, 3) = KIND; turns(0, 0) = 4; as(0, 0) = 9; as(0, 4) = KIND; as(0, 1) = KIND");
    }

    private static void guard() {
        Edge.says("GUARD of a WAGON: LIGHT, and what all SEE who are AT it, together");
        Script s = Edge.fresh("wagon(1) = 0; wagon(1) = 1; at(0, 4) = 0; 'light 99'; at(0, 4) = 99");
        for (int k = 0; k < 8; k++) {
            s.on("watcher(4, 0, 9) = " + k, "at(0, 4) = " + (99 + 12 * k), "set(" + k + ", 4, 1)", "at(0, 4) = " + (111 + 12 * k));
        }
        s.on("at(0, 4) = 195; at(1, 4) = 99; set(0, 1, 1); at(0, 4) = 183; at(1, 4) = 111; set(0, 1, 2); at(0, 4) = 183; at(1, 4) = 99");
    }
}
