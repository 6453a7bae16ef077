/** Terms, part 5, and promises 29 to 37: the edges of sheets and slots, a sentence of the document ahead of its calls. */
public final class EdgesOfSheetsTest {
    public static void main(String[] args) {
        sheets();
        missing();
        marks();
        marksOrder();
        pours();
        reads();
        copies();
        copiesOverItself();
        copiesOrder();
        slots();
        slotsKeep();
        laysOrder();
        asks();
        items();
        rests();
        Edge.ends("EdgesOfSheetsTest");
    }

    /** A sheet's places, by slot 4; the place behind the last must be none. */
    private static void holds(Script s, int sheet, String... places) {
        s.on("lay(4, 2, " + sheet + ")");
        for (int k = 0; k < places.length; k++) {
            s.on("item(4, " + k + ") = " + places[k]);
        }
        s.on("item(4, " + places.length + ") = INDEX; item(4, -1) = INDEX");
    }

    private static void sheets() {
        Edge.says("SHEETS 0 .. 3 are rows of shorts (sort 0) or floats (1; whole numbers), with 0 to 24 places, or MISSING (at first)");
        for (int sheet = 0; sheet < 4; sheet++) {
            Script s = Edge.fresh("reads(" + sheet + ") = NOTHING");
            for (int sort = 0; sort < 2; sort++) {
                String of = "sheet(" + sheet + ", " + sort + ", ";
                s.on(of + "24) = 24", "mark(" + sheet + ", 23, 7) = 1; mark(" + sheet + ", 24, 7) = INDEX; mark(" + sheet + ", -1, 7) = INDEX");
                s.on(of + "25) = BAD", of + "MOST) = BAD", of + "-1) = SIZE", of + "LEAST) = SIZE", "lay(0, 2, " + sheet + "); item(0, 23) = 7");
                s.on(of + "1) = 1", "lay(0, 2, " + sheet + "); item(0, 0) = 0; item(0, 1) = INDEX");
                s.on(of + "0) = 0", "mark(" + sheet + ", 0, 7) = INDEX; reads(" + sheet + ") = NONE; lay(0, 2, " + sheet + "); item(0, 0) = INDEX");
            }
            for (int other = 0; other < 4; other++) {
                s.on("reads(" + other + ") = " + (other == sheet ? "NONE" : "NOTHING"));
            }
        }
        Edge.fresh("sheet(-1, 0, 1) = BAD; sheet(4, 0, 1) = BAD; sheet(0, -2, 1) = BAD; sheet(0, 2, 1) = BAD; reads(0) = NOTHING; reads(-1) = BAD; reads(4) = BAD");

        Edge.says("A SHEET becomes a row of n places of a sort, all 0");
        Script s = Edge.fresh("sheet(0, 1, 3) = 3; mark(0, 0, 5); mark(0, 1, NONE); mark(0, 2, -7); sheet(0, 1, 3) = 3");
        holds(s, 0, "0", "0", "0");
        s.on("mark(0, 0, 5); mark(0, 2, 9); sheet(0, 0, 1) = 1; sheet(0, 0, 3) = 3");
        holds(s, 0, "0", "0", "0");

        Edge.says("BAD: sheet, sort, n above 24; SIZE.");
        Edge.fresh("sheet(4, 0, -1) = BAD; sheet(-1, 1, -1) = BAD; sheet(0, 2, -1) = BAD; sheet(0, -2, -1) = BAD; sheet(0, 0, 25) = BAD; sheet(0, 0, -1) = SIZE; reads(0) = NOTHING");
    }

    private static void missing() {
        Edge.says("(sort -1: MISSING, n any): n (0)");
        for (String n : new String[] {"0", "1", "24", "25", "-1", "MOST", "LEAST"}) {
            Edge.fresh("sheet(0, 0, 3) = 3; reads(0) = 0; sheet(0, -1, " + n + ") = 0; reads(0) = NOTHING; sheet(0, -1, " + n + ") = 0",
                "sheet(4, -1, " + n + ") = BAD; sheet(-1, -1, " + n + ") = BAD");
        }
        Edge.says("SIZE: a number of places is below 0");
        Edge.fresh("sheet(0, 0, -1) = SIZE; sheet(3, 1, -1) = SIZE; sheet(3, 1, LEAST) = SIZE; sheet(0, 0, 0) = 0; sheet(3, 1, 0) = 0; sheet(0, 0, -1) = SIZE; reads(0) = NONE");
        Edge.says("A place of floats may be NO NUMBER");
        Edge.fresh("sheet(0, 1, 24) = 24; mark(0, 0, NONE) = 1; mark(0, 23, NONE) = 1; lay(0, 2, 0) = 0; item(0, 0) = KIND; item(0, 23) = KIND; item(0, 1) = 0; item(0, 22) = 0",
            "copy(0, 23, 0, 1, 1) = 1; lay(1, 2, 0) = 0; item(1, 1) = KIND; sheet(1, 0, 24) = 24; mark(1, 0, NONE) = KIND; copy(0, 0, 1, 0, 1) = KIND; lay(1, 2, 1) = 2; item(1, 0) = 0");
        Edge.says("KIND: it is none (of a KIND, a number, or another thing)");
        Edge.fresh("watcher(0, 0, 1) = 0; as(0, 1) = KIND; lay(0, 1, 0) = 0; ask(0, 1) = KIND; item(0, 0) = KIND; rest(0, 1) = KIND; lay(0, 3, 5) = 1; ask(0, 0) = KIND; item(0, 0) = KIND",
            "sheet(0, 1, 1) = 1; mark(0, 0, NONE) = 1; lay(0, 2, 0) = 3; ask(0, 0) = KIND; rest(0, 1) = KIND; item(0, 0) = KIND; sheet(1, 0, 1) = 1; mark(1, 0, NONE) = KIND; copy(0, 0, 1, 0, 1) = KIND");
        Edge.says("NOTHING: a SHEET is MISSING, a SLOT holds nothing");
        Edge.fresh("mark(0, 0, 0) = NOTHING; pour(0) = NOTHING; reads(0) = NOTHING; copy(0, 0, 0, 0, 0) = NOTHING; lay(0, 2, 0) = NOTHING; signs(0, 0, 0) = NOTHING",
            "ask(0, 0) = NOTHING; item(0, 0) = NOTHING; rest(0, 1) = NOTHING; sheet(0, 0, 0) = 0; copy(0, 0, 1, 0, 0) = NOTHING; copy(1, 0, 0, 0, 0) = NOTHING",
            "mark(0, 0, 0) = INDEX; pour(0) = 0; reads(0) = NONE; copy(0, 0, 0, 0, 0) = 0; lay(0, 2, 0) = 0; signs(0, 0, 0) = 0");
    }

    private static void marks() {
        Edge.says("A place of a SHEET becomes v (of shorts its lowest 16 bits; of floats v, -99999 .. 99999; NONE: NO NUMBER): 1");
        String[][] shorts = {{"32767", "32767"}, {"32768", "-32768"}, {"65535", "-1"}, {"65536", "0"}, {"65537", "1"}, {"-1", "-1"},
            {"-32768", "-32768"}, {"-32769", "32767"}, {"-65536", "0"}, {"MOST", "-1"}, {"LEAST", "0"}, {"BAD", "" + (short) Due.BAD},
            {"99999", "" + (short) 99999}, {"100000", "" + (short) 100000}};
        for (String[] d : shorts) {
            holds(Edge.fresh("sheet(0, 0, 3) = 3; mark(0, 1, " + d[0] + ") = 1"), 0, "0", d[1], "0");
        }
        for (String v : new String[] {"99999", "-99999", "99998", "0", "32768", "65536", "-32769"}) {
            holds(Edge.fresh("sheet(0, 1, 3) = 3; mark(0, 1, " + v + ") = 1"), 0, "0", v, "0");
        }
        for (String v : new String[] {"100000", "-100000", "MOST", "LEAST", "BAD", "FULL", "KIND"}) {
            holds(Edge.fresh("sheet(0, 1, 3) = 3; mark(0, 1, 5) = 1; mark(0, 1, " + v + ") = BAD"), 0, "0", "5", "0");
        }
        holds(Edge.fresh("sheet(0, 1, 3) = 3; mark(0, 1, NONE) = 1; mark(0, 1, 100000) = BAD"), 0, "0", "KIND", "0");
        holds(Edge.fresh("sheet(0, 1, 3) = 3; mark(0, 1, NONE) = 1; mark(0, 1, 4) = 1"), 0, "0", "4", "0");
        holds(Edge.fresh("sheet(0, 0, 3) = 3; mark(0, 1, 5) = 1; mark(0, 1, NONE) = KIND"), 0, "0", "5", "0");
    }

    private static void marksOrder() {
        Edge.says("BAD: sheet; NOTHING; INDEX; KIND: NONE in a row of shorts; BAD: v of floats.");
        Edge.fresh("""
            mark(-1, 99, NONE) = BAD; mark(4, 99, 100000) = BAD
            mark(0, 99, NONE) = NOTHING; mark(0, -1, 100000) = NOTHING
            sheet(0, 0, 2) = 2; mark(0, 2, NONE) = INDEX; mark(0, -1, NONE) = INDEX; mark(0, 0, NONE) = KIND; mark(0, LEAST, 1) = INDEX; mark(0, MOST, 1) = INDEX
            sheet(1, 1, 2) = 2; mark(1, 2, 100000) = INDEX; mark(1, -1, -100000) = INDEX; mark(1, 2, NONE) = INDEX; mark(1, 0, 100000) = BAD; mark(1, 1, NONE) = 1
            """);
    }

    private static void pours() {
        Edge.says("FOALS of WAGONS, by numbers, become the places of a SHEET from 0 on (each held within 0 .. 99; NO NUMBER, and beyond the SHEET: they stay): how many are otherwise then");
        Edge.fresh("pour(-1) = BAD; pour(4) = BAD; pour(3) = NOTHING; sheet(3, 0, 24) = 24; pour(3) = 0; count(0) = 0");
        Edge.fresh("""
            wagon(50) = 0; wagon(50) = 1; wagon(50) = 2; wagon(50) = 3; wagon(50) = 4; wagon(50) = 5; wagon(50) = 6; wagon(7) = 7
            sheet(0, 1, 7) = 7; mark(0, 0, 0); mark(0, 1, -1); mark(0, 2, 99); mark(0, 3, 100); mark(0, 4, NONE); mark(0, 5, 50); mark(0, 6, -99999)
            pour(0) = 5; at(0, 0) = 0; at(1, 0) = 0; at(2, 0) = 99; at(3, 0) = 99; at(4, 0) = 50; at(5, 0) = 50; at(6, 0) = 0; at(7, 0) = 7
            pour(0) = 0; mark(0, 6, 99999); pour(0) = 1; at(6, 0) = 99; sheet(0, 1, 0) = 0; pour(0) = 0; at(0, 0) = 0; at(7, 0) = 7
            sheet(0, 0, 24) = 24; mark(0, 23, 5); mark(0, 8, 5); mark(0, 7, 32767); mark(0, 0, -32768); pour(0) = 6; at(0, 0) = 0; at(7, 0) = 99; count(0) = 8; count(7) = 99
            """);
        Script s = new Script();
        for (int k = 0; k < 12; k++) {
            s.on("wagon(1) = " + k);
        }
        s.on("sheet(0, 0, 12) = 12; pour(0) = 12; count(7) = 0; mark(0, 11, 3); pour(0) = 1; at(11, 0) = 3; at(11, 1) = 0; at(11, 2) = 0; night(0) = 0");
    }

    private static void reads() {
        Edge.says("The first place (of numbers alone) at which a SHEET is not LIGHT of that WAGON (of places that are no WAGON all numbers are not)");
        Edge.fresh("reads(-1) = BAD; reads(4) = BAD; reads(0) = NOTHING; sheet(0, 0, 0) = 0; reads(0) = NONE; sheet(0, 0, 1) = 1; reads(0) = 0; sheet(0, 1, 2) = 2; mark(0, 0, NONE); reads(0) = 1; mark(0, 1, NONE); reads(0) = NONE");
        Edge.wagons(2).on("sheet(0, 0, 1) = 1; reads(0) = NONE; sheet(0, 0, 2) = 2; reads(0) = NONE; sheet(0, 0, 3) = 3; reads(0) = 2",
            "lays(1, 1, 1); reads(0) = 0; mark(0, 0, 1); reads(0) = 1; mark(0, 1, 2); reads(0) = 2",
            "sheet(1, 1, 3) = 3; mark(1, 0, NONE); mark(1, 1, NONE); mark(1, 2, NONE); reads(1) = NONE; mark(1, 1, 3); reads(1) = 1; mark(1, 1, 2); reads(1) = NONE");
        Script s = Edge.wagons(12).on("'light 99'; sheet(0, 1, 24) = 24");
        for (int k = 0; k < 24; k++) {
            s.on("reads(0) = " + k, "mark(0, " + k + ", 99)", "reads(0) = " + (k < 12 ? k + 1 : k), "mark(0, " + k + ", " + (k < 12 ? "99" : "NONE") + ")");
        }
        s.on("reads(0) = NONE; mark(0, 11, 98); reads(0) = 11; mark(0, 11, 100); reads(0) = 11; mark(0, 11, -99); reads(0) = 11");
    }

    private static void copies() {
        Edge.says("So many places of a SHEET come to another one (or the same), as they were: many");
        String both = "sheet(0, 0, 4) = 4; mark(0, 0, 1); mark(0, 1, 2); mark(0, 2, 3); mark(0, 3, 4); sheet(1, 0, 3) = 3; ";
        holds(Edge.fresh(both + "copy(0, 0, 1, 0, 0) = 0"), 1, "0", "0", "0");
        holds(Edge.fresh(both + "copy(0, 3, 1, 2, 1) = 1"), 1, "0", "0", "4");
        holds(Edge.fresh(both + "copy(0, 0, 1, 0, 3) = 3"), 1, "1", "2", "3");
        holds(Edge.fresh(both + "copy(0, 1, 1, 0, 3) = 3"), 1, "2", "3", "4");
        holds(Edge.fresh(both + "copy(0, 1, 1, 1, 2) = 2"), 0, "1", "2", "3", "4");
        holds(Edge.fresh(both + "copy(0, 4, 1, 3, 0) = 0"), 1, "0", "0", "0");
        holds(Edge.fresh("sheet(0, 1, 24) = 24; sheet(3, 1, 1) = 1; mark(0, 23, NONE); copy(0, 23, 3, 0, 1) = 1"), 3, "KIND");
        Script s = Edge.fresh("sheet(0, 0, 24) = 24; sheet(1, 0, 24) = 24");
        String[] all = new String[24];
        for (int k = 0; k < 24; k++) {
            s.on("mark(0, " + k + ", " + (k - 32768) + ")");
            all[k] = "" + (k - 32768);
        }
        holds(s.on("copy(0, 0, 1, 0, 24) = 24"), 1, all);

        Edge.says("INDEX: there is no such place");
        for (String bad : new String[] {"-1, 1, 0, 1", "0, 1, -1, 1", "4, 1, 0, 1", "0, 1, 3, 1", "3, 1, 0, 2", "0, 1, 2, 2", "0, 1, 0, 4", "5, 1, 0, 0",
            "0, 1, 4, 0", "-1, 1, 0, 0", "0, 1, -1, 0", "0, 1, 0, -1", "1, 1, 1, -1", "0, 1, 0, LEAST", "0, 1, 0, MOST", "1, 1, 1, MOST", "MOST, 1, 0, 1",
            "0, 1, MOST, 1", "MOST, 1, MOST, MOST", "LEAST, 1, LEAST, LEAST", "LEAST, 1, 0, MOST", "2, 1, 0, MOST", "MOST, 1, 0, LEAST"}) {
            holds(Edge.fresh(both + "copy(0, " + bad + ") = INDEX"), 1, "0", "0", "0");
        }
        Edge.fresh("sheet(0, 0, 0) = 0; sheet(1, 0, 1) = 1; copy(0, 0, 1, 0, 0) = 0; copy(0, 0, 1, 1, 0) = 0; copy(0, 0, 1, 0, 1) = INDEX; copy(1, 0, 0, 0, 1) = INDEX; copy(0, 1, 1, 0, 0) = INDEX");
    }

    private static void copiesOverItself() {
        Edge.says("come to another one (or the same), as they were");
        String row = "sheet(0, 0, 5) = 5; mark(0, 0, 1); mark(0, 1, 2); mark(0, 2, 3); mark(0, 3, 4); mark(0, 4, 5); ";
        holds(Edge.fresh(row + "copy(0, 0, 0, 1, 4) = 4"), 0, "1", "1", "2", "3", "4");
        holds(Edge.fresh(row + "copy(0, 1, 0, 0, 4) = 4"), 0, "2", "3", "4", "5", "5");
        holds(Edge.fresh(row + "copy(0, 0, 0, 2, 3) = 3"), 0, "1", "2", "1", "2", "3");
        holds(Edge.fresh(row + "copy(0, 2, 0, 0, 3) = 3"), 0, "3", "4", "5", "4", "5");
        holds(Edge.fresh(row + "copy(0, 0, 0, 0, 5) = 5"), 0, "1", "2", "3", "4", "5");
        holds(Edge.fresh(row + "copy(0, 0, 0, 1, 5) = INDEX; copy(0, 5, 0, 5, 0) = 0; copy(0, 5, 0, 5, 1) = INDEX"), 0, "1", "2", "3", "4", "5");
    }

    private static void copiesOrder() {
        Edge.says("BAD; NOTHING; KIND: they are not of one sort; INDEX.");
        Edge.fresh("""
            sheet(0, 0, 2) = 2; sheet(1, 1, 2) = 2
            copy(-1, 0, 2, 0, 0) = BAD; copy(4, 0, 2, 0, 0) = BAD; copy(2, 0, -1, 0, 0) = BAD; copy(2, 0, 4, 0, 0) = BAD; copy(0, 9, 4, 9, 9) = BAD; copy(4, 9, 0, 9, -9) = BAD
            copy(2, 9, 0, 9, 9) = NOTHING; copy(0, 9, 2, 9, 9) = NOTHING; copy(1, 0, 2, 0, -1) = NOTHING; copy(3, 0, 2, 0, 0) = NOTHING; copy(2, 0, 2, 0, 0) = NOTHING
            copy(0, 9, 1, 9, 9) = KIND; copy(1, -1, 0, 0, -1) = KIND; copy(0, 0, 1, 0, 0) = KIND; copy(1, 0, 0, 0, 1) = KIND
            copy(0, 2, 0, 0, 1) = INDEX; copy(1, 0, 1, 2, 1) = INDEX
            """);
    }

    private static void slots() {
        Edge.says("SLOTS 0 .. 4 each hold nothing (at first), a WATCHER (as it is then, for good), a SHEET (a row of its own, as it was then), or a number");
        Script s = Edge.fresh("watcher(2, 0, 9) = 0; sheet(0, 0, 24) = 24");
        for (int slot = 0; slot < 5; slot++) {
            String in = "(" + slot + ", ";
            s.on("ask" + in + "0) = NOTHING; item" + in + "0) = NOTHING; rest" + in + "1) = NOTHING");
            s.on("lay" + in + "1, 0) = 0; ask" + in + "0) = 11; item" + in + "0) = KIND; rest" + in + "1) = KIND");
            s.on("lay" + in + "2, 0) = 1; ask" + in + "0) = KIND; item" + in + "23) = 0; item" + in + "24) = INDEX; rest" + in + "1) = KIND");
            s.on("lay" + in + "3, 17) = 2; ask" + in + "0) = KIND; item" + in + "0) = KIND; rest" + in + "10) = 7");
            s.on("lay" + in + "0, 0) = 3; ask" + in + "0) = NOTHING; item" + in + "0) = NOTHING; rest" + in + "1) = NOTHING; lay" + in + "0, 0) = 0");
        }
        s.on("lay(-1, 0, 0) = BAD; lay(5, 0, 0) = BAD; lay(0, -1, 0) = BAD; lay(0, 4, 0) = BAD; ask(-1, 0) = BAD; ask(5, 0) = BAD; item(-1, 0) = BAD; item(5, 0) = BAD; rest(-1, 1) = BAD; rest(5, 1) = BAD");
    }

    private static void slotsKeep() {
        Edge.says("a WATCHER (as it is then, for good)");
        Edge.fresh("watcher(3, 0, 5) = 0; lay(0, 1, 0) = 0; ask(0, 3) = 18; turns(0, 2); set(0, 2, 9); ask(0, 3) = 18; ask(0, 0) = 18; ask(0, 2) = KIND; told(0, 6) = 11",
            "keep(); back(); ask(0, 1) = 18; hours(300); ask(0, 1) = 18; lay(1, 1, 0); ask(1, 2) = 11; ask(0, 1) = 18");
        Edge.fresh("keep(); watcher(1, 0, 5) = 0; lay(0, 1, 0) = 0; back(); count(1) = 0; ask(0, 1) = 9; lay(1, 1, 0) = BAD; watcher(2, 0, 9) = 0; ask(0, 1) = 9");

        Edge.says("a SHEET (a row of its own, as it was then)");
        Edge.fresh("sheet(0, 1, 2) = 2; mark(0, 0, 5); mark(0, 1, NONE); lay(0, 2, 0) = 0; mark(0, 0, 6); mark(0, 1, 7); item(0, 0) = 5; item(0, 1) = KIND; item(0, 2) = INDEX",
            "sheet(0, 0, 24) = 24; item(0, 0) = 5; item(0, 2) = INDEX; sheet(0, -1, 0); item(0, 0) = 5; item(0, 1) = KIND; lay(1, 2, 0) = NOTHING",
            "sheet(1, 0, 3) = 3; mark(1, 2, 8); lay(0, 2, 1) = 2; item(0, 0) = 0; item(0, 1) = 0; item(0, 2) = 8; item(0, 3) = INDEX; copy(1, 2, 1, 0, 1) = 1; item(0, 0) = 0",
            "sheet(2, 0, 0) = 0; lay(0, 2, 2) = 2; item(0, 0) = INDEX; lay(0, 2, 1) = 2; item(0, 2) = 8; item(0, 0) = 8");

        Edge.says("A SLOT holds: thing 0 nothing, 1 WATCHER k, 2 SHEET k, 3 the number k: what it held (0 .. 3)");
        Edge.fresh("lay(0, 3, MOST) = 0; rest(0, 10) = 7; lay(0, 3, LEAST) = 3; rest(0, 10) = -8; lay(0, 3, NONE) = 3; rest(0, 10) = -5; lay(0, 3, 0) = 3; rest(0, 7) = 0; lay(0, 0, LEAST) = 3; lay(0, 0, MOST) = 0");
    }

    private static void laysOrder() {
        Edge.says("BAD: slot, thing, k; NOTHING: that SHEET is MISSING.");
        Edge.fresh("""
            lay(0, 1, 0) = BAD; lay(0, 1, -1) = BAD; lay(0, 2, -1) = BAD; lay(0, 2, 4) = BAD; lay(0, 2, 0) = NOTHING; lay(0, 2, 3) = NOTHING; lay(5, 2, 0) = BAD; lay(-1, 2, 3) = BAD; lay(5, 3, 0) = BAD
            watcher(0, 0, 1) = 0; lay(0, 1, 1) = BAD; lay(0, 1, 8) = BAD; lay(0, 1, 0) = 0; lay(0, 1, 1) = BAD; lay(0, 2, 0) = NOTHING; lay(0, 2, 4) = BAD; lay(0, 4, 0) = BAD; ask(0, 0) = 1; lay(0, 1, 0) = 1
            """);
        Script s = new Script();
        for (int k = 0; k < 8; k++) {
            s.on("lay(0, 1, " + k + ") = BAD", "watcher(0, 0, " + (k + 1) + ") = " + k, "lay(0, 1, " + k + ")", "ask(0, 0) = " + (k + 1));
        }
        s.on("lay(0, 1, 8) = BAD; ask(0, 0) = 8");
    }

    private static void asks() {
        Edge.says("WORTH of the WATCHER in a SLOT, taken for one of a KIND (0 .. 5). BAD; NOTHING; KIND: it is no WATCHER, or not of that KIND, nor of one under it.");
        Edge.fresh("""
            ask(0, -1) = BAD; ask(0, 6) = BAD; ask(5, 0) = BAD; ask(-1, 0) = BAD; ask(5, 6) = BAD; ask(0, 0) = NOTHING; ask(0, 5) = NOTHING
            lay(0, 3, 1); ask(0, 0) = KIND; ask(0, 5) = KIND; ask(0, 6) = BAD; ask(0, -1) = BAD; sheet(0, 0, 1); lay(0, 2, 0); ask(0, 0) = KIND; ask(0, 6) = BAD
            watcher(5, 0, 1) = 0; lay(0, 1, 0); ask(0, 0) = 2; ask(0, 5) = 2; ask(0, 1) = KIND; ask(0, 2) = KIND; ask(0, 3) = KIND; ask(0, 4) = KIND; ask(0, 6) = BAD; ask(0, -1) = BAD
            """);
    }

    private static void items() {
        Edge.says("A place of the SHEET in a SLOT. BAD: slot; NOTHING; KIND: it is no SHEET; INDEX; KIND: NO NUMBER.");
        Edge.fresh("""
            item(5, -1) = BAD; item(-1, 99) = BAD; item(0, -1) = NOTHING; item(0, 99) = NOTHING
            lay(0, 3, 1); item(0, -1) = KIND; item(0, 0) = KIND; watcher(0, 0, 1); lay(0, 1, 0); item(0, 99) = KIND
            sheet(0, 1, 2) = 2; mark(0, 1, NONE); lay(0, 2, 0); item(0, 0) = 0; item(0, 1) = KIND; item(0, 2) = INDEX; item(0, -1) = INDEX; item(0, MOST) = INDEX; item(0, LEAST) = INDEX
            """);
    }

    private static void rests() {
        Edge.says("The rest of the number in a SLOT by n. BAD: slot; NOTHING; KIND: it is no number; NO: n is 0.");
        Edge.fresh("""
            rest(5, 0) = BAD; rest(-1, 0) = BAD; rest(0, 0) = NOTHING; rest(0, 1) = NOTHING
            sheet(0, 0, 1); lay(0, 2, 0); rest(0, 0) = KIND; rest(0, 1) = KIND; watcher(0, 0, 1); lay(0, 1, 0); rest(0, 0) = KIND
            lay(0, 3, 17); rest(0, 0) = NO; rest(0, 1) = 0; rest(0, -1) = 0; rest(0, 5) = 2; rest(0, -5) = 2; rest(0, 17) = 0; rest(0, 18) = 17; rest(0, MOST) = 17; rest(0, LEAST) = 17
            lay(0, 3, -17); rest(0, 0) = NO; rest(0, 5) = -2; rest(0, -5) = -2; rest(0, LEAST) = -17
            lay(0, 3, LEAST); rest(0, -1) = 0; rest(0, 1) = 0; rest(0, LEAST) = 0; rest(0, MOST) = -1; rest(0, 0) = NO
            lay(0, 3, 0); rest(0, 0) = NO; rest(0, 9) = 0
            """);
    }
}
