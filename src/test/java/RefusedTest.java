import java.util.EnumMap;
import java.util.List;
import java.util.Map;

/**
 * Each argument of each call: the last number that is taken and the first that is refused, on both sides; and that a
 * refused call changes nothing, in a camp that is empty, in one that has some of all, in one where all is full.
 */
public final class RefusedTest {
    private static final Map<Camps, List<List<String>>> AS_MADE = new EnumMap<>(Camps.class);
    private static final Map<Camps, List<List<String>>> WITHOUT_TAPE = new EnumMap<>(Camps.class);
    private static final Map<Camps, List<List<String>>> WITHOUT_WAITING = new EnumMap<>(Camps.class);

    public static void main(String[] args) {
        for (Camps camp : Camps.values()) {
            Edge.says("and changes nothing (but the tape and the numbers that wait, where told)");
            AS_MADE.put(camp, all(camp, true, ""));
            WITHOUT_TAPE.put(camp, all(camp, true, "trim(0) = 0"));
            WITHOUT_WAITING.put(camp, all(camp, false, ""));
        }
        campsAreTold();
        ring();
        watchers();
        hours();
        texts();
        sheets();
        slots();
        rows();
        full();
        empty();
        useUp();
        Edge.ends("RefusedTest");
    }

    private static List<List<String>> all(Camps camp, boolean tells, String then) {
        List<List<String>> parts = new java.util.ArrayList<>();
        for (int part = 0; part < Camps.PARTS; part++) {
            parts.add(Camps.told(camp.make(tells).on(then), part));
        }
        return parts;
    }

    /** The camps must be what they are for, and what is told of them must see every change. */
    private static void campsAreTold() {
        Camps.FULL.make(true).on("count(0) = 12; count(1) = 8; count(6) = 9999; count(8) = 14; count(9) = 60; count(10) = 96; check(30) = 0; back() = 12; text() = 2");
        Camps.SOME.make(true).on("count(0) = 5; count(1) = 4; count(8) = 3; count(9) = 6; count(10) = 24; check(3) = 0; back() = 5; text() = 2; textTold(2, 0) = 1");
        String[] changes = {"lays(4, 0, 9)", "lays(4, 1, 9)", "lays(4, 2, 9)", "plain(0, 9)", "plain(1, 9)", "plain(2, 9)", "wagon(0)", "turns(3, 0)",
            "set(3, 1, 5)", "set(3, 2, 5)", "set(3, 3, 5)", "set(3, 4, 1)", "watcher(0, 0, 1)", "deal(1)", "seed(0)", "hours(1)", "keep()", "back()", "tell(0)",
            "feed(0, 0, 0)", "trim(5)", "text()", "sheet(2, 0, 0)", "sheet(1, 0, 6)", "sheet(0, 0, 5)", "mark(3, 23, 1)", "mark(3, 23, NONE)", "pour(0)",
            "copy(1, 2, 1, 0, 1)", "lay(3, 3, 0)", "lay(2, 3, -16)", "lay(0, 1, 0)", "lay(0, 0, 0)", "lay(1, 2, 3)", "check(1)"};
        for (String change : changes) {
            boolean seen = false;
            for (int part = 0; part < Camps.PARTS; part++) {
                Script s = Camps.SOME.make(true);
                s.on(change);
                seen |= !Camps.told(s, part).equals(AS_MADE.get(Camps.SOME).get(part));
            }
            Due.holds(change + " can be seen", seen);
        }
    }

    private static void unchanged(Camps camp, String call, int due, List<List<String>> want) {
        for (int part = 0; part < Camps.PARTS; part++) {
            Script s = camp.make(true);
            Edge.is(camp + ": " + call, s.answer(call), due);
            List<String> is = Camps.told(s, part);
            for (int k = 0; k < want.get(part).size(); k++) {
                String told = k < is.size() ? is.get(k) : "nothing";
                boolean same = told.equals(want.get(part).get(k));
                Due.holds(same ? "" : camp + ": behind the refused " + call + " " + told + ", due is " + want.get(part).get(k), same);
            }
        }
    }

    /** The calls, each with its answer, are refused and change nothing. */
    private static void refused(Camps camp, String... calls) {
        for (String line : calls) {
            for (String call : line.split(";")) {
                int cut = call.lastIndexOf('=');
                unchanged(camp, call.substring(0, cut).trim(), Script.number(call.substring(cut + 1)), AS_MADE.get(camp));
            }
        }
    }

    /** The calls, each on a camp of its own, with their answers; those without one must only not be BAD. */
    private static void taken(String... calls) {
        for (String line : calls) {
            for (String call : line.split(";")) {
                if (call.contains("=")) {
                    Camps.SOME.make(true).on(call);
                } else {
                    int got = Camps.SOME.make(true).answer(call.trim());
                    Edge.is(call + ", not BAD", got == Due.BAD ? got : 0, 0);
                }
            }
        }
    }

    private static void ring() {
        Edge.says("One more WAGON, behind the last one: its number. BAD; FULL.");
        taken("wagon(0) = 5; wagon(99) = 5");
        refused(Camps.SOME, "wagon(-1) = BAD; wagon(100) = BAD; wagon(LEAST) = BAD; wagon(MOST) = BAD");
        Edge.says("Of a WAGON: what 0 FOALS, 1 FIRE, 2 TRIED, 3 LIGHT, 4 GUARD, 5 FEARS. BAD.");
        taken("at(0, 0) = 40; at(4, 0); at(0, 5); at(4, 5)");
        refused(Camps.SOME, "at(-1, 0) = BAD; at(5, 0) = BAD; at(0, -1) = BAD; at(0, 6) = BAD; at(LEAST, 5) = BAD; at(MOST, 5) = BAD; at(4, LEAST) = BAD; at(4, MOST) = BAD");
        Edge.says("FOALS (what 0), FIRE (1), TRIED (2) of a WAGON becomes v: what it was. BAD.");
        taken("lays(0, 0, 0) = 40; lays(0, 0, 99) = 40; lays(0, 1, 0) = 2; lays(0, 1, 9) = 2; lays(4, 2, 0); lays(4, 2, 99)");
        refused(Camps.SOME, "lays(-1, 0, 0) = BAD; lays(5, 0, 0) = BAD; lays(0, -1, 0) = BAD; lays(0, 3, 0) = BAD; lays(0, 0, -1) = BAD; lays(0, 0, 100) = BAD",
            "lays(0, 1, -1) = BAD; lays(0, 1, 10) = BAD; lays(0, 2, -1) = BAD; lays(0, 2, 100) = BAD; lays(MOST, 0, 0) = BAD; lays(0, LEAST, 0) = BAD; lays(0, 0, MOST) = BAD; lays(0, 1, LEAST) = BAD");
        Edge.says("FAR. BAD.");
        taken("far(0, 0) = 0; far(4, 0) = 1; far(0, 4) = 1; far(4, 4) = 0");
        refused(Camps.SOME, "far(-1, 0) = BAD; far(5, 0) = BAD; far(0, -1) = BAD; far(0, 5) = BAD; far(MOST, 0) = BAD; far(0, LEAST) = BAD");
        Edge.says("WOOD (what 0; 0 .. 9999), WOLVES (1; 0 .. 99), HUNGER (2; 0 .. 99) becomes v: what it was. BAD.");
        taken("plain(0, 0); plain(0, 9999); plain(1, 0) = 8; plain(1, 99) = 8; plain(2, 0); plain(2, 99)");
        refused(Camps.SOME, "plain(-1, 0) = BAD; plain(3, 0) = BAD; plain(0, -1) = BAD; plain(0, 10000) = BAD; plain(1, -1) = BAD; plain(1, 100) = BAD; plain(2, -1) = BAD; plain(2, 100) = BAD; plain(MOST, 0) = BAD; plain(0, LEAST) = BAD; plain(1, MOST) = BAD");
    }

    private static void watchers() {
        Edge.says("One more WATCHER (not ON): its number. BAD; FULL.");
        taken("watcher(0, 0, 1) = 4; watcher(5, 11, 9) = 4");
        refused(Camps.SOME, "watcher(-1, 0, 1) = BAD; watcher(6, 0, 1) = BAD; watcher(0, -1, 1) = BAD; watcher(0, 12, 1) = BAD; watcher(0, 0, 0) = BAD; watcher(0, 0, 10) = BAD; watcher(MOST, 0, 1) = BAD; watcher(0, LEAST, 1) = BAD; watcher(0, 0, MOST) = BAD");
        Edge.says("Of a WATCHER: what 0 KIND, 1 AT, 2 EYES, 3 TIRED, 4 ON (1, 0), 5 what it SEES, 6 WORTH. BAD.");
        taken("told(0, 0) = 0; told(3, 0) = 5; told(0, 6) = 5; told(3, 6) = 2");
        refused(Camps.SOME, "told(-1, 0) = BAD; told(4, 0) = BAD; told(0, -1) = BAD; told(0, 7) = BAD; told(LEAST, 0) = BAD; told(0, MOST) = BAD");
        Edge.says("BAD: watcher, kind; KIND: it is not of that KIND, nor of one under it.");
        taken("as(0, 0) = 5; as(3, 0) = 9; as(3, 5) = 9");
        refused(Camps.SOME, "as(-1, 0) = BAD; as(4, 0) = BAD; as(0, -1) = BAD; as(0, 6) = BAD; as(0, 1) = KIND; as(0, 5) = KIND; as(4, 6) = BAD; as(-1, 5) = BAD; as(MOST, 0) = BAD; as(0, LEAST) = BAD");
        Edge.says("A WATCHER is of another KIND from now on: what it was. BAD.");
        taken("turns(0, 0) = 0; turns(0, 5) = 0; turns(3, 0) = 5; turns(3, 5) = 5");
        refused(Camps.SOME, "turns(-1, 0) = BAD; turns(4, 0) = BAD; turns(0, -1) = BAD; turns(0, 6) = BAD; turns(MOST, 0) = BAD; turns(0, LEAST) = BAD");
        Edge.says("AT (what 1), EYES (2), TIRED (3), ON (4; 1, 0) of a WATCHER becomes v: what it was. BAD.");
        taken("set(0, 1, 0) = 0; set(3, 1, 11) = 11; set(0, 2, 1) = 5; set(0, 2, 9) = 5; set(0, 3, 0); set(0, 3, 999); set(0, 4, 0) = 1; set(0, 4, 1) = 1");
        refused(Camps.SOME, "set(-1, 1, 0) = BAD; set(4, 1, 0) = BAD; set(0, 0, 1) = BAD; set(0, 5, 1) = BAD; set(0, -1, 1) = BAD; set(0, 1, -1) = BAD; set(0, 1, 12) = BAD",
            "set(0, 2, 0) = BAD; set(0, 2, 10) = BAD; set(0, 3, -1) = BAD; set(0, 3, 1000) = BAD; set(0, 4, -1) = BAD; set(0, 4, 2) = BAD; set(MOST, 1, 0) = BAD; set(0, LEAST, 1) = BAD; set(0, 3, MOST) = BAD");
        Edge.says("WATCHERS are drawn, n (1 .. 8) of them");
        taken("deal(1) = 1; deal(4) = 4; deal(5) = 4; deal(8) = 4");
        refused(Camps.SOME, "deal(0) = BAD; deal(9) = BAD; deal(-1) = BAD; deal(MOST) = BAD; deal(LEAST) = BAD");
        Edge.says("z becomes v: what it was.");
        taken("seed(MOST) = 77; seed(LEAST) = 77; seed(0) = 77");
    }

    private static void hours() {
        Edge.says("n (1 .. 300) HOURS (no more than up to 9999): how many FOALS were LOST in them. BAD.");
        taken("hours(1); hours(300)");
        refused(Camps.SOME, "hours(0) = BAD; hours(301) = BAD; hours(-1) = BAD; hours(MOST) = BAD; hours(LEAST) = BAD");
        Edge.says("What was 0 LOST, 1 SLEPT, 2 BURNT, and 3 the WAGON with the least FEARS, as it is (of several the least; NONE: there are no WAGONS, or no WOLVES). BAD.");
        taken("night(0); night(3)");
        refused(Camps.SOME, "night(-1) = BAD; night(4) = BAD; night(MOST) = BAD; night(LEAST) = BAD");
        Edge.says("BEHIND n (0 .. 300) HOURS: what 0 LOST, 1 WOOD, 2 HUNGER, 3 FOALS. BAD.");
        taken("behind(0, 0); behind(300, 0); behind(0, 3); behind(300, 3)");
        refused(Camps.SOME, "behind(-1, 0) = BAD; behind(301, 0) = BAD; behind(0, -1) = BAD; behind(0, 4) = BAD; behind(LEAST, 0) = BAD; behind(0, MOST) = BAD");
        Edge.says("DARK for v (0 .. 100), as a set. BAD.");
        taken("dark(0) = 0; dark(100) = 31");
        refused(Camps.SOME, "dark(-1) = BAD; dark(101) = BAD; dark(MOST) = BAD; dark(LEAST) = BAD");
        Edge.says("FIRES for w (0 .. 18): what 0 the least LIGHT, 1 FIRES together, 2 these FIRES, as digits to the base of 4 (WAGON 0 the highest). BAD; NONE: there are no WAGONS, or more than 6.");
        taken("fires(0, 0) = 0; fires(18, 0) = 15; fires(0, 2) = 0; fires(18, 2) = 1023");
        refused(Camps.SOME, "fires(-1, 0) = BAD; fires(19, 0) = BAD; fires(0, -1) = BAD; fires(0, 3) = BAD; fires(MOST, 0) = BAD; fires(0, LEAST) = BAD");
        Edge.says("WATCH of n (1 .. 60): what 0 the WATCHER, 1 LOST then. BAD; NONE: there are no WATCHERS.");
        taken("watch(1, 0); watch(60, 0); watch(1, 1); watch(60, 1)");
        refused(Camps.SOME, "watch(0, 0) = BAD; watch(61, 0) = BAD; watch(1, -1) = BAD; watch(1, 2) = BAD; watch(LEAST, 0) = BAD; watch(1, MOST) = BAD");
        Edge.says("BEST PLACE of a WATCHER, for n (1 .. 60). BAD; NONE: there are no WAGONS.");
        taken("place(0, 1); place(3, 1); place(0, 60); place(3, 60)");
        refused(Camps.SOME, "place(-1, 1) = BAD; place(4, 1) = BAD; place(0, 0) = BAD; place(0, 61) = BAD; place(MOST, 1) = BAD; place(0, LEAST) = BAD");
        Edge.says("SIGNS by a SHEET, for n (0 .. 60): what 0 WOLVES, 1 the differences, together. BAD; NOTHING.");
        taken("signs(0, 0, 0); signs(3, 0, 1); signs(0, 60, 0); signs(3, 60, 1)");
        refused(Camps.SOME, "signs(-1, 0, 0) = BAD; signs(4, 0, 0) = BAD; signs(0, -1, 0) = BAD; signs(0, 61, 0) = BAD; signs(0, 0, -1) = BAD; signs(0, 0, 2) = BAD; signs(2, 0, 0) = NOTHING; signs(2, -1, 0) = BAD; signs(2, 61, 0) = BAD; signs(2, 0, 2) = BAD; signs(2, 0, -1) = BAD; signs(2, 60, 1) = NOTHING; signs(MOST, 0, 0) = BAD; signs(0, LEAST, 0) = BAD; signs(0, 0, MOST) = BAD");
    }

    private static void texts() {
        Edge.says("Twelve bytes come to THE TAPE, the highest of each number first: how many it has. FULL: it would have more than 96.");
        taken("feed(0, 0, 0) = 36; feed(MOST, LEAST, -1) = 36");
        Edge.says("THE TAPE keeps its first n bytes: n. BAD.");
        taken("trim(0) = 0; trim(24) = 24");
        refused(Camps.SOME, "trim(-1) = BAD; trim(25) = BAD; trim(96) = BAD; trim(MOST) = BAD; trim(LEAST) = BAD");
        Edge.says("Of a TEXT: what 0 KEY (0 light, 1 fear, 2 tire), 1 how many NUMBERS and NAMES it has. BAD.");
        taken("textTold(0, 0) = 0; textTold(2, 0) = 1; textTold(0, 1) = 3; textTold(2, 1) = 3; textTold(1, 1) = 2");
        refused(Camps.SOME, "textTold(-1, 0) = BAD; textTold(3, 0) = BAD; textTold(0, -1) = BAD; textTold(0, 2) = BAD; textTold(MOST, 0) = BAD; textTold(0, LEAST) = BAD; textTold(14, 0) = BAD");
        Edge.says("The TEXT that counts for a KEY. BAD; NONE.");
        taken("why(0) = 0; why(2) = 1");
        refused(Camps.SOME, "why(-1) = BAD; why(3) = BAD; why(MOST) = BAD; why(LEAST) = BAD");
    }

    private static void sheets() {
        Edge.says("BAD: sheet, sort, n above 24; SIZE.");
        taken("sheet(0, -1, 0) = 0; sheet(3, 1, 24) = 24; sheet(0, 0, 0) = 0; sheet(0, -1, MOST) = 0; sheet(0, -1, LEAST) = 0");
        refused(Camps.SOME, "sheet(-1, 0, 0) = BAD; sheet(4, 0, 0) = BAD; sheet(0, -2, 0) = BAD; sheet(0, 2, 0) = BAD; sheet(0, 0, -1) = SIZE; sheet(0, 0, 25) = BAD; sheet(1, 1, 25) = BAD; sheet(1, 1, -1) = SIZE; sheet(1, 1, LEAST) = SIZE; sheet(1, 1, MOST) = BAD; sheet(4, -1, 0) = BAD; sheet(4, 0, -1) = BAD; sheet(0, 2, -1) = BAD; sheet(2, 0, 25) = BAD; sheet(2, 0, -1) = SIZE; sheet(MOST, 0, 0) = BAD; sheet(0, LEAST, 0) = BAD");
        Edge.says("BAD: sheet; NOTHING; INDEX; KIND: NONE in a row of shorts; BAD: v of floats.");
        taken("mark(0, 0, 0) = 1; mark(0, 5, 0) = 1; mark(3, 23, 0) = 1; mark(1, 0, 99999) = 1; mark(1, 0, -99999) = 1; mark(0, 0, MOST) = 1; mark(0, 0, LEAST) = 1; mark(1, 0, NONE) = 1");
        refused(Camps.SOME, "mark(-1, 0, 0) = BAD; mark(4, 0, 0) = BAD; mark(2, 0, 0) = NOTHING; mark(2, -1, NONE) = NOTHING; mark(0, -1, 0) = INDEX; mark(0, 6, 0) = INDEX; mark(1, 6, 100000) = INDEX; mark(3, 24, 0) = INDEX; mark(0, 0, NONE) = KIND; mark(0, 6, NONE) = INDEX; mark(1, 0, 100000) = BAD; mark(1, 0, -100000) = BAD; mark(1, 2, MOST) = BAD; mark(1, 5, LEAST) = BAD; mark(1, 0, BAD) = BAD; mark(MOST, 0, 0) = BAD; mark(0, LEAST, 0) = INDEX");
        Edge.says("they stay): how many are otherwise then. BAD; NOTHING.");
        taken("pour(0); pour(3)");
        refused(Camps.SOME, "pour(-1) = BAD; pour(4) = BAD; pour(2) = NOTHING; pour(MOST) = BAD; pour(LEAST) = BAD");
        Edge.says("BAD; NOTHING; NONE: there is none.");
        taken("reads(0) = 0; reads(3)");
        refused(Camps.SOME, "reads(-1) = BAD; reads(4) = BAD; reads(2) = NOTHING; reads(MOST) = BAD; reads(LEAST) = BAD");
        Edge.says("BAD; NOTHING; KIND: they are not of one sort; INDEX. (From a SHEET, its place, to a SHEET, its place.)");
        taken("copy(0, 0, 0, 0, 6) = 6; copy(0, 6, 0, 6, 0) = 0; copy(1, 0, 3, 18, 6) = 6; copy(3, 23, 1, 5, 1) = 1; copy(1, 5, 3, 23, 1) = 1");
        refused(Camps.SOME, "copy(-1, 0, 0, 0, 1) = BAD; copy(4, 0, 0, 0, 1) = BAD; copy(0, 0, -1, 0, 1) = BAD; copy(0, 0, 4, 0, 1) = BAD; copy(2, 0, 0, 0, 1) = NOTHING; copy(0, 0, 2, 0, 1) = NOTHING; copy(2, 0, 2, 0, 0) = NOTHING",
            "copy(0, 0, 1, 0, 1) = KIND; copy(1, 0, 0, 0, 1) = KIND; copy(0, -1, 1, -1, -1) = KIND; copy(1, -1, 3, 0, 1) = INDEX; copy(1, 6, 3, 0, 1) = INDEX; copy(1, 0, 3, -1, 1) = INDEX; copy(1, 0, 3, 24, 1) = INDEX; copy(1, 0, 3, 0, 7) = INDEX; copy(1, 0, 3, 19, 6) = INDEX; copy(1, 1, 3, 0, 6) = INDEX",
            "copy(1, 7, 3, 0, 0) = INDEX; copy(1, 0, 3, 25, 0) = INDEX; copy(1, 0, 3, 0, -1) = INDEX; copy(1, 0, 3, 0, MOST) = INDEX; copy(1, 5, 3, 5, MOST) = INDEX; copy(1, MOST, 3, 0, 1) = INDEX; copy(1, 0, 3, MOST, 1) = INDEX; copy(1, LEAST, 3, 0, LEAST) = INDEX; copy(MOST, 0, 0, 0, 0) = BAD; copy(0, 0, LEAST, 0, 0) = BAD");
    }

    private static void slots() {
        Edge.says("what it held (0 .. 3). BAD: slot, thing, k; NOTHING: that SHEET is MISSING.");
        taken("lay(0, 0, 0) = 1; lay(4, 3, 0) = 2; lay(3, 1, 0) = 0; lay(2, 1, 3) = 3; lay(3, 2, 0) = 0; lay(3, 2, 3) = 0; lay(3, 0, LEAST) = 0; lay(3, 3, MOST) = 0");
        refused(Camps.SOME, "lay(-1, 0, 0) = BAD; lay(5, 0, 0) = BAD; lay(0, -1, 0) = BAD; lay(0, 4, 0) = BAD; lay(0, 1, -1) = BAD; lay(0, 1, 4) = BAD; lay(0, 2, -1) = BAD; lay(0, 2, 4) = BAD; lay(0, 2, 2) = NOTHING; lay(3, 2, 2) = NOTHING; lay(5, 2, 2) = BAD; lay(1, 1, 4) = BAD; lay(2, 2, 4) = BAD; lay(MOST, 3, 0) = BAD; lay(0, LEAST, 0) = BAD; lay(0, 1, MOST) = BAD; lay(0, 2, LEAST) = BAD");
        Edge.says("taken for one of a KIND (0 .. 5). BAD; NOTHING; KIND: it is no WATCHER, or not of that KIND, nor of one under it.");
        taken("ask(0, 0) = 22; ask(0, 1) = 22; ask(0, 3) = 22");
        refused(Camps.SOME, "ask(-1, 0) = BAD; ask(5, 0) = BAD; ask(0, -1) = BAD; ask(0, 6) = BAD; ask(3, 0) = NOTHING; ask(3, 5) = NOTHING; ask(3, 6) = BAD; ask(1, 0) = KIND; ask(2, 0) = KIND; ask(0, 2) = KIND; ask(0, 4) = KIND; ask(0, 5) = KIND; ask(2, 6) = BAD; ask(MOST, 0) = BAD; ask(0, LEAST) = BAD");
        Edge.says("BAD: slot; NOTHING; KIND: it is no SHEET; INDEX; KIND: NO NUMBER.");
        taken("item(1, 0) = 0; item(1, 5) = 99999; item(4, 0) = -5; item(4, 5) = 32767");
        refused(Camps.SOME, "item(-1, 0) = BAD; item(5, 0) = BAD; item(3, 0) = NOTHING; item(3, -1) = NOTHING; item(0, 0) = KIND; item(0, -1) = KIND; item(2, 9) = KIND; item(1, -1) = INDEX; item(1, 6) = INDEX; item(1, 2) = KIND; item(4, 6) = INDEX; item(4, MOST) = INDEX; item(4, LEAST) = INDEX; item(MOST, 0) = BAD");
        Edge.says("BAD: slot; NOTHING; KIND: it is no number; NO: n is 0.");
        taken("rest(2, 1) = 0; rest(2, -1) = 0; rest(2, MOST) = -17; rest(2, LEAST) = -17");
        refused(Camps.SOME, "rest(-1, 1) = BAD; rest(5, 1) = BAD; rest(3, 1) = NOTHING; rest(3, 0) = NOTHING; rest(0, 0) = KIND; rest(1, 1) = KIND; rest(2, 0) = NO; rest(MOST, 0) = BAD; rest(LEAST, 1) = BAD");
    }

    private static void rows() {
        Edge.says("One more number waits: how many. FULL: 60 wait.");
        taken("tell(MOST) = 7; tell(LEAST) = 7; tell(NONE) = 7");
        Edge.says("10 bytes of THE TAPE, 11 z. BAD.");
        taken("count(0) = 5; count(11) = 77");
        refused(Camps.SOME, "count(-1) = BAD; count(12) = BAD; count(MOST) = BAD; count(LEAST) = BAD");
    }

    /** All is full. */
    private static void full() {
        Edge.says("A call that is refused answers one of BAD, NO, FULL, or a FINDING, of several the one that stands first with it");
        refused(Camps.FULL, "wagon(0) = FULL; wagon(99) = FULL; wagon(100) = BAD; wagon(-1) = BAD; at(12, 0) = BAD; at(11, 6) = BAD; lays(12, 0, 0) = BAD; far(0, 12) = BAD; far(12, 0) = BAD",
            "watcher(0, 0, 1) = FULL; watcher(5, 11, 9) = FULL; watcher(6, 0, 1) = BAD; watcher(0, 12, 1) = BAD; watcher(0, 0, 10) = BAD; told(8, 0) = BAD; set(8, 1, 0) = BAD; as(8, 0) = BAD; turns(8, 0) = BAD; place(8, 1) = BAD",
            "deal(0) = BAD; deal(9) = BAD; deal(1) = 0; deal(8) = 0; hours(0) = BAD; hours(301) = BAD; hours(1) = 0; hours(300) = 0; fires(0, 0) = NONE; fires(18, 2) = NONE; fires(19, 0) = BAD; fires(0, 3) = BAD",
            "feed(0, 0, 0) = FULL; feed(-1, MOST, LEAST) = FULL; trim(97) = BAD; trim(96) = 96; tell(0) = FULL; tell(MOST) = FULL; textTold(14, 0) = BAD; why(3) = BAD; lay(0, 1, 8) = BAD; lay(0, 2, 4) = BAD; copy(0, 0, 2, 1, 24) = INDEX; copy(0, 1, 2, 0, 24) = INDEX; copy(0, 0, 1, 0, 24) = KIND; copy(0, 24, 2, 24, 0) = 0");
        Edge.says("nothing changes.)");
        refused(Camps.FULL, "lasts() = NONE; loss() = 2; dark(100) = 4095; dark(0) = 0; behind(0, 3) = 1023; behind(300, 1) = 6102; night(3) = 0; signs(2, 0, 0) = 0");
    }

    /** There is nothing at all. */
    private static void empty() {
        Edge.says("NONE: there is none.");
        refused(Camps.EMPTY, "night(3) = NONE; lasts() = NONE; loss() = NONE; fires(0, 0) = NONE; watch(1, 0) = NONE; why(0) = NONE");
        Edge.says("As told; no WAGONS, no WATCHERS.");
        refused(Camps.EMPTY, "at(0, 0) = BAD; at(0, 3) = BAD; lays(0, 0, 0) = BAD; lays(0, 1, 0) = BAD; far(0, 0) = BAD; told(0, 0) = BAD; told(0, 5) = BAD; as(0, 0) = BAD; turns(0, 0) = BAD; set(0, 1, 0) = BAD; set(0, 4, 0) = BAD",
            "night(0) = 0; night(1) = 0; night(2) = 0; night(3) = NONE; behind(0, 0) = 0; behind(300, 0) = 0; behind(300, 1) = 100; behind(300, 2) = 5; behind(300, 3) = 0; lasts() = NONE; loss() = NONE; dark(0) = 0; dark(100) = 0",
            "fires(0, 0) = NONE; fires(18, 1) = NONE; fires(1, 2) = NONE; watch(1, 0) = NONE; watch(60, 1) = NONE; place(0, 1) = BAD; place(0, 60) = BAD; signs(0, 0, 0) = NOTHING; signs(3, 60, 1) = NOTHING",
            "trim(0) = 0; trim(1) = BAD; trim(-1) = BAD; text() = -100; textTold(0, 0) = BAD; why(0) = NONE; why(1) = NONE; why(2) = NONE; sheet(0, -1, 0) = 0; sheet(0, 0, -1) = SIZE; mark(0, 0, 0) = NOTHING; pour(0) = NOTHING; reads(0) = NOTHING",
            "copy(0, 0, 0, 0, 0) = NOTHING; copy(0, 0, 1, 0, 1) = NOTHING; lay(0, 0, 0) = 0; lay(0, 1, 0) = BAD; lay(0, 2, 0) = NOTHING; ask(0, 0) = NOTHING; item(0, 0) = NOTHING; rest(0, 1) = NOTHING; rest(0, 0) = NOTHING",
            "check(1) = NO; check(30) = NO; check(0) = BAD; check(31) = BAD; back() = NO; count(12) = BAD; count(-1) = BAD; deal(0) = BAD; wagon(100) = BAD; watcher(6, 0, 1) = BAD; hours(0) = BAD; plain(0, -1) = BAD");
    }

    private static void useUp() {
        Edge.says("an act that reads it uses it up, whatever it answers");
        unchanged(Camps.FULL, "text()", Due.FULL, WITHOUT_TAPE.get(Camps.FULL));
        Edge.says("(none do then, whatever is answered)");
        for (Camps camp : new Camps[] {Camps.SOME, Camps.FULL}) {
            for (String call : new String[] {"check(0)", "check(31)", "check(-1)", "check(MOST)", "check(LEAST)"}) {
                unchanged(camp, call, Due.BAD, WITHOUT_WAITING.get(camp));
            }
        }
        unchanged(Camps.SOME, "check(3)", 0, WITHOUT_WAITING.get(Camps.SOME));
        unchanged(Camps.SOME, "check(2)", 5, WITHOUT_WAITING.get(Camps.SOME));
        unchanged(Camps.SOME, "check(30)", 7, WITHOUT_WAITING.get(Camps.SOME));
        unchanged(Camps.FULL, "check(30)", 0, WITHOUT_WAITING.get(Camps.FULL));
        unchanged(Camps.FULL, "check(29)", 59, WITHOUT_WAITING.get(Camps.FULL));
        // A fault changes nothing either: what the tape has is made faulty by its last byte.
        Script s = Camps.SOME.make(true).on("trim(5) = 5; text() = -105");
        Edge.is("behind a fault", Camps.told(s, 0).equals(WITHOUT_TAPE.get(Camps.SOME).get(0)) ? 1 : 0, 1);
    }
}
