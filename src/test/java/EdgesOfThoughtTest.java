/** Terms, part 3: the edges of what is only thought, a sentence of the document ahead of its calls. */
public final class EdgesOfThoughtTest {
    public static void main(String[] args) {
        withoutTheBound();
        behind();
        woodLasts();
        firstLoss();
        dark();
        sixWagons();
        firesEach();
        firesTogether();
        firesInOrder();
        watch();
        place();
        signsOfWolves();
        signsDiffer();
        Edge.ends("EdgesOfThoughtTest");
    }

    /** Makes 9999 hours pass. */
    private static Script toTheLastHour(Script s) {
        for (int k = 0; k < 34; k++) {
            s.on("hours(300)");
        }
        return s.on("count(6) = 9999; hours(1) = 0; count(6) = 9999");
    }

    private static void withoutTheBound() {
        Edge.says("(All this is only thought, from now on, without the bound of THE HOUR: nothing changes.)");
        Script s = toTheLastHour(new Script());
        s.on("wagon(99) = 0; wagon(0) = 1; lays(1, 1, 1); plain(0, 299); plain(1, 50); watcher(2, 1, 9) = 0; sheet(0, 0, 1) = 1; mark(0, 0, 39)",
            "lays(1, 2, 99); plain(2, 0)",
            "behind(0, 0) = 0; behind(1, 0) = 1; behind(60, 0) = 60; behind(60, 3) = 39; behind(99, 0) = 99; behind(300, 0) = 99; behind(300, 1) = 0",
            "behind(299, 1) = 0; behind(298, 1) = 1; lasts() = 300; loss() = 1; watch(60, 1) = 60; watch(1, 1) = 1; place(0, 60) = 0; signs(0, 60, 1) = 0",
            "count(6) = 9999; count(3) = 299; count(7) = 99; count(5) = 0; at(0, 0) = 99; at(1, 1) = 1; told(0, 3) = 0; told(0, 4) = 0; count(4) = 50");
    }

    private static void behind() {
        Edge.says("BEHIND n HOURS: LOST; WOOD; HUNGER; FOALS of all");
        Edge.fresh("behind(0, 0) = 0; behind(0, 1) = 100; behind(0, 2) = 5; behind(0, 3) = 0; behind(300, 0) = 0; behind(300, 1) = 100; behind(300, 2) = 5; behind(300, 3) = 0");
        Edge.fresh("wagon(99) = 0; lays(0, 1, 1); plain(0, 301); plain(1, 40); plain(2, 98)",
            "behind(0, 0) = 0; behind(0, 1) = 301; behind(0, 2) = 98; behind(0, 3) = 99",
            "behind(1, 0) = 1; behind(1, 1) = 300; behind(1, 2) = 0; behind(1, 3) = 98",
            "behind(300, 0) = 99; behind(300, 1) = 1; behind(300, 2) = 99; behind(300, 3) = 0",
            "behind(-1, 0) = BAD; behind(301, 0) = BAD; behind(0, -1) = BAD; behind(0, 4) = BAD; behind(300, 4) = BAD");
        Edge.fresh("wagon(9) = 0; hours(4) = 4; behind(0, 0) = 4; behind(1, 0) = 5; behind(300, 0) = 9; night(0) = 4");
    }

    private static void woodLasts() {
        Edge.says("WOOD LASTS. NONE: not by then.");
        Edge.wagons(1).on("lays(0, 1, 1); plain(0, 299); lasts() = 300; plain(0, 300); lasts() = NONE");
        Edge.says("WOOD LASTS: behind how many HOURS (1 .. 300) a FIRE has gone out for want of WOOD first");
        Edge.fresh("lasts() = NONE; plain(0, 0); lasts() = NONE; wagon(0) = 0; lasts() = NONE");
        Edge.wagons(1).on("lays(0, 1, 1); plain(0, 0); lasts() = 1; plain(0, 1); lasts() = 2; plain(0, 298); lasts() = 299; plain(0, 299); lasts() = 300",
            "plain(0, 300); lasts() = NONE; plain(0, 301); lasts() = NONE; plain(0, 9999); lasts() = NONE; lays(0, 1, 9); plain(0, 2699); lasts() = 300",
            "plain(0, 2700); lasts() = NONE; plain(0, 2691); lasts() = 300; plain(0, 2690); lasts() = 299; count(3) = 2690; at(0, 1) = 9");
        // The wood need not be at its end: the 9 go out, the 1 burns on.
        Edge.wagons(2).on("lays(0, 1, 1); lays(1, 1, 9); plain(0, 18); lasts() = 2; plain(0, 19); lasts() = 2; plain(0, 20); lasts() = 3; plain(0, 9); lasts() = 1",
            "hours(1); at(1, 1) = 0; at(0, 1) = 1; lasts() = 9");
        Edge.wagons(12).on("lays(11, 1, 1); plain(0, 299); lasts() = 300; plain(1, 0); lasts() = 300");
    }

    private static void firstLoss() {
        Edge.says("FIRST LOSS. NONE: not by then.");
        // They come 99 hours to the wagon without foals, then to the other one, which was tried 98 times.
        Edge.fresh("wagon(0) = 0; wagon(1) = 1; lays(1, 2, 98); loss() = 100; hours(99) = 0; loss() = 1; hours(1) = 1; loss() = NONE");
        Edge.says("FIRST LOSS: behind how many HOURS (1 .. 300) LOST is more than now first");
        Edge.fresh("loss() = NONE; wagon(0) = 0; loss() = NONE; wagon(1) = 1; loss() = 2; plain(1, 0); loss() = NONE");
        Edge.fresh("wagon(2) = 0; loss() = 1; hours(1) = 1; loss() = 1; hours(1) = 1; loss() = NONE");
        // As long as there is wood, light 99 and a dog of 9 are enough for one wolf, however hungry.
        Edge.fresh("wagon(9) = 0; lays(0, 1, 1); plain(1, 1); plain(2, 99); watcher(2, 0, 9) = 0; set(0, 4, 1); 'light 99*(w>0)' = 0",
            "plain(0, 0); loss() = 1; plain(0, 1); loss() = 1; plain(0, 2); loss() = 2; plain(0, 299); loss() = 299; plain(0, 300); loss() = 300",
            "plain(0, 301); loss() = NONE; plain(0, 302); loss() = NONE; at(0, 0) = 9; count(3) = 302; told(0, 3) = 0; count(6) = 0");
    }

    private static void dark() {
        Edge.says("DARK: WAGONS whose LIGHT is less than a number");
        Edge.fresh("dark(0) = 0; dark(100) = 0");
        Edge.wagons(1).on("dark(0) = 0; dark(1) = 1; 'light 98'; dark(98) = 0; dark(99) = 1; 'light 99'; dark(99) = 0; dark(100) = 1; dark(101) = BAD; dark(-1) = BAD");

        Edge.says("Sets of WAGONS, of WATCHERS are told as bits (bit k for number k)");
        for (int k = 0; k < 12; k++) {
            Script s = Edge.wagons(12).on("dark(0) = 0; dark(1) = 4095; dark(100) = 4095; 'light f*10'");
            for (int other = 0; other < 12; other++) {
                s.on("lays(" + other + ", 1, " + (other == k ? 4 : 5) + ")");
            }
            s.on("dark(50) = " + (1 << k), "dark(40) = 0; dark(41) = " + (1 << k), "dark(51) = 4095");
        }
    }

    private static void sixWagons() {
        Edge.says("FIRES (0 .. 3 each, of all WAGONS; there must be 6 WAGONS at most)");
        Script s = Edge.fresh("fires(0, 0) = NONE; fires(18, 1) = NONE; fires(18, 2) = NONE; fires(19, 0) = BAD; fires(-1, 0) = BAD; fires(0, 3) = BAD; fires(0, -1) = BAD");
        int[] light = {0, 6, 9, 12, 12, 12, 12};
        for (int many = 1; many <= 6; many++) {
            s.on("wagon(0) = " + (many - 1), "fires(18, 0) = " + light[many], "fires(18, 1) = " + 3 * many,
                "fires(18, 2) = " + ((1 << 2 * many) - 1), "fires(0, 0) = 0; fires(0, 1) = 0; fires(0, 2) = 0");
        }
        s.on("wagon(0) = 6; fires(0, 0) = NONE; fires(18, 0) = NONE; fires(18, 2) = NONE; fires(19, 0) = BAD; fires(18, 3) = BAD");
    }

    private static void firesEach() {
        Edge.says("FIRES (0 .. 3 each");
        // Light wants as much fire as there can be, or none: 3 at most, and what burns now is nothing to it.
        Edge.wagons(1).on("fires(2, 1) = 2; fires(3, 1) = 3; fires(4, 1) = 3; fires(18, 1) = 3; fires(18, 2) = 3; lays(0, 1, 9); fires(18, 0) = 6; at(0, 1) = 9");
        Edge.wagons(2).on("'light 9-f-n'; lays(0, 1, 9); fires(18, 0) = 9; fires(18, 1) = 0; fires(18, 2) = 0; at(0, 3) = 0");
        Edge.wagons(1).on("'light (f=4)*9+f'; fires(18, 0) = 3; fires(18, 2) = 3");
    }

    private static void firesTogether() {
        Edge.says("together w at most, with which the least LIGHT of a WAGON is greatest; of several with the fewest together");
        Edge.wagons(6).on("fires(1, 0) = 0; fires(1, 1) = 0; fires(1, 2) = 0; fires(2, 0) = 1; fires(2, 1) = 2; fires(17, 1) = 15; fires(17, 0) = 10",
            "fires(5, 0) = 3; fires(5, 1) = 5; fires(6, 0) = 4; fires(6, 1) = 6; fires(6, 2) = 546; fires(11, 0) = 7; fires(12, 0) = 8; fires(12, 1) = 12; fires(18, 1) = 18");
        Edge.wagons(2).on("'light 500'; fires(18, 0) = 99; fires(18, 1) = 0; 'light 0-5'; fires(18, 0) = 0; fires(18, 1) = 0");
        Edge.wagons(2).on("'light f*40+n'; fires(18, 0) = 99; fires(18, 1) = 6; fires(5, 0) = 83; fires(5, 1) = 5; fires(5, 2) = 11; fires(4, 0) = 82");
        // 3 each would be 123, and 99 is as bright as it can be.
        Edge.wagons(2).on("'light f*60'; fires(18, 0) = 99; fires(18, 1) = 4; fires(18, 2) = 10; fires(3, 0) = 60; fires(3, 1) = 2");
    }

    private static void firesInOrder() {
        Edge.says("of several the one first in order (WAGON 0 first, the lesser ahead)");
        Edge.wagons(2).on("fires(1, 0) = 1; fires(1, 1) = 1; fires(1, 2) = 1");
        Edge.wagons(4).on("fires(2, 0) = 2; fires(2, 1) = 2; fires(2, 2) = 17");
        Edge.wagons(6).on("fires(2, 2) = 65; fires(5, 2) = 338; fires(6, 2) = 546; fires(11, 2) = 1703; fires(12, 2) = 1911; fires(17, 2) = 3003; fires(18, 2) = 4095");
        Edge.wagons(3).on("'light (f+n=4)*5'; fires(18, 0) = 5; fires(18, 1) = 4; fires(18, 2) = 7");
    }

    /** One wagon of 30 foals, 8 wolves without hunger: a dog of 8 drives them off, one of 7 does not. */
    private static Script dogs(int... eyes) {
        Script s = Edge.fresh("wagon(30) = 0; plain(1, 8); plain(2, 0)");
        for (int k = 0; k < eyes.length; k++) {
            s.on("watcher(2, 0, " + eyes[k] + ") = " + k);
        }
        return s;
    }

    private static void watch() {
        Edge.says("WATCH of n HOURS: the WATCHER who, if it were ON now and all others not, leaves LOST behind n HOURS least; of several the least");
        Edge.fresh("watch(1, 0) = NONE; watch(60, 1) = NONE; watcher(0, 0, 1) = 0; watch(1, 0) = 0; watch(60, 1) = 0");
        dogs(7, 8).on("watch(1, 0) = 1; watch(1, 1) = 0; watch(2, 1) = 1");
        dogs(7, 6).on("watch(1, 0) = 0; watch(1, 1) = 1");
        dogs(8, 8).on("watch(1, 0) = 0; watch(1, 1) = 0");
        dogs(7, 7, 7, 7, 7, 7, 7, 8).on("watch(1, 0) = 7; watch(1, 1) = 0; watch(59, 0) = 7; watch(59, 1) = 29; watch(60, 0) = 0; watch(60, 1) = 30; count(2) = 0");
        // Two of 7 who are on now would be enough together, but one alone is not.
        dogs(7, 7, 8).on("set(0, 4, 1); set(1, 4, 1); behind(1, 0) = 0; watch(1, 0) = 2; watch(1, 1) = 0; told(0, 4) = 1; told(2, 4) = 0");
        dogs(7, 7, 5).on("set(0, 4, 1); set(1, 4, 1); watch(1, 0) = 0; watch(1, 1) = 1");
        // Who watches tires, who sleeps does not: a boy is worth nothing behind six hours, whatever he was ahead of them.
        Edge.fresh("wagon(30) = 0; plain(1, 1); plain(2, 0); watcher(5, 0, 9) = 0; watcher(2, 0, 8) = 1; 'fear 0'",
            "watch(6, 0) = 0; watch(6, 1) = 0; watch(7, 0) = 1; watch(7, 1) = 0; watch(9, 0) = 1; watch(9, 1) = 1; set(0, 3, 6); watch(1, 0) = 1; set(0, 4, 1); watch(9, 0) = 1; told(0, 3) = 6");
        dogs(7).on("hours(3) = 3; watch(1, 1) = 4; watch(0, 0) = BAD; watch(61, 0) = BAD; watch(1, -1) = BAD; watch(1, 2) = BAD");
    }

    private static void place() {
        Edge.says("BEST PLACE of a WATCHER, for n: the WAGON AT which, ON, it leaves LOST behind n HOURS least, all others as they are; of several the least");
        Edge.fresh("place(0, 1) = BAD; watcher(2, 5, 9) = 0; place(0, 1) = NONE; place(0, 60) = NONE; place(0, 0) = BAD; place(0, 61) = BAD; wagon(9) = 0; place(0, 60) = 0");
        for (int best = 0; best < 12; best++) {
            Script s = Edge.fresh("plain(1, 5); plain(2, 0); watcher(2, 0, 9) = 0");
            for (int k = 0; k < 12; k++) {
                s.on("wagon(" + (k == best ? 9 : 0) + ") = " + k, "lays(" + k + ", 2, " + (k == best ? 0 : 30) + ")");
            }
            s.on("place(0, 1) = " + best, "place(0, 3) = " + best, "told(0, 1) = 0; told(0, 4) = 0; plain(1, 0); place(0, 1) = 0; place(0, 60) = 0");
        }
        // They come to wagon 1 in the eighth hour: a boy has tired by then wherever he is, a dog has not.
        Edge.fresh("wagon(1) = 0; wagon(30) = 1; lays(1, 2, 5); 'fear t'; plain(1, 1); plain(2, 0); watcher(5, 0, 9) = 0",
            "place(0, 9) = 0; turns(0, 2); place(0, 9) = 1; turns(0, 5); set(0, 4, 1); place(0, 9) = 0; told(0, 3) = 0; told(0, 1) = 0");
        // A dog of 4 is not enough for 5 wolves: with another of 4 as it is, on, it is.
        Edge.fresh("wagon(0) = 0; wagon(9) = 1; lays(0, 2, 30); plain(1, 5); plain(2, 0); watcher(2, 0, 4) = 0; watcher(2, 1, 4) = 1",
            "place(0, 1) = 0; set(1, 4, 1); place(0, 1) = 1; set(1, 1, 0); place(0, 1) = 0; place(1, 1) = 0");
    }

    private static void signsOfWolves() {
        Edge.says("SIGNS by a SHEET: the number of WOLVES 0 .. 40 with which FOALS of WAGON k behind n HOURS and places k that are numbers differ least");
        // One foal less behind an hour: as many wolves are wanted as the light is above hunger, and one.
        Script s = Edge.fresh("wagon(10) = 0; sheet(0, 0, 1) = 1; mark(0, 0, 9); plain(2, 0); 'light w'");
        for (int light : new int[] {0, 1, 38, 39}) {
            s.on("plain(0, " + light + "); signs(0, 1, 0) = " + (light + 1), "signs(0, 1, 1) = 0");
        }
        s.on("plain(0, 40); signs(0, 1, 0) = 0; signs(0, 1, 1) = 1; plain(0, 0); signs(0, 0, 0) = 0; signs(0, 0, 1) = 1; count(4) = 3");
        s.on("plain(1, 99); signs(0, 1, 0) = 1; count(4) = 99; mark(0, 0, 10); signs(0, 1, 0) = 0; signs(0, 1, 1) = 0");
        Edge.fresh("wagon(99) = 0; sheet(0, 1, 1) = 1; mark(0, 0, 39); signs(0, 60, 0) = 1; signs(0, 60, 1) = 0; mark(0, 0, -99999); signs(0, 60, 1) = 100038");
        Edge.fresh("wagon(5) = 0; sheet(0, 1, 0) = 0; signs(0, 60, 0) = 0; signs(0, 60, 1) = 0; sheet(1, 1, 1) = 1; mark(1, 0, NONE); signs(1, 60, 0) = 0; signs(1, 60, 1) = 0");
    }

    private static void signsDiffer() {
        Edge.says("(signs left out; of places beyond all WAGONS: 0), together; of several the least");
        Edge.fresh("""
            wagon(10) = 0; wagon(10) = 1; plain(1, 0); sheet(0, 1, 24) = 24
            mark(0, 0, 12); mark(0, 1, 8); signs(0, 0, 0) = 0; signs(0, 0, 1) = 4
            mark(0, 2, 5); signs(0, 0, 1) = 9; mark(0, 23, -6); signs(0, 0, 1) = 15; mark(0, 23, NONE); signs(0, 0, 1) = 9
            """);
        Script s = Edge.fresh("sheet(0, 0, 24) = 24; sheet(1, 1, 24) = 24");
        for (int k = 0; k < 24; k++) {
            s.on("mark(0, " + k + ", -32768); mark(1, " + k + ", 99999)");
        }
        s.on("signs(0, 60, 0) = 0; signs(0, 60, 1) = 786432; signs(1, 60, 0) = 0; signs(1, 60, 1) = 2399976");
        for (int k = 0; k < 12; k++) {
            s.on("wagon(99) = " + k);
        }
        s.on("signs(0, 0, 1) = 787620; signs(1, 0, 1) = 2398788");
    }
}
