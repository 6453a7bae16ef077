/** Promises 1 to 6: a new object, wagon, at, lays, far, plain. */
public final class RingTest {
    public static void main(String[] args) {
        newObject();
        wagon();
        atRefuses();
        light();
        guardAndFears();
        lays();
        far();
        plain();
        Due.ends("RingTest");
    }

    private static void newObject() {
        WolfFires x = new WolfFires();
        int[] due = {0, 0, 0, 100, 3, 5, 0, 0, 0, 0, 0, 1};
        for (int what = 0; what < due.length; what++) {
            Due.is("new: count(" + what + ")", x.count(what), due[what]);
        }
        for (int what = 0; what < 3; what++) {
            Due.is("new: night(" + what + ")", x.night(what), 0);
            Due.is("new: why(" + what + ")", x.why(what), Due.NONE);
        }
        for (int k = 0; k < 4; k++) {
            Due.is("new: reads(" + k + ")", x.reads(k), Due.NOTHING);
        }
        for (int k = 0; k < 5; k++) {
            Due.is("new: item(" + k + ", 0)", x.item(k, 0), Due.NOTHING);
        }
        Due.is("new: back()", x.back(), Due.NO);
        WolfFires y = new WolfFires();
        y.wagon(1);
        Due.is("two objects are two", x.count(0), 0);
    }

    private static void wagon() {
        WolfFires x = new WolfFires();
        Due.is("wagon(-1)", x.wagon(-1), Due.BAD);
        Due.is("wagon(100)", x.wagon(100), Due.BAD);
        Due.is("wagon(least int)", x.wagon(Integer.MIN_VALUE), Due.BAD);
        for (int k = 0; k < 12; k++) {
            int foals = k == 0 ? 0 : 100 - k;
            Due.is("wagon " + k, x.wagon(foals), k);
            Due.is("its foals", x.at(k, 0), foals);
            Due.is("its fire", x.at(k, 1), 0);
            Due.is("its tried", x.at(k, 2), 0);
        }
        Due.is("wagon 13", x.wagon(0), Due.FULL);
        Due.is("BAD stands ahead of FULL", x.wagon(100), Due.BAD);
        Due.is("count(0)", x.count(0), 12);
    }

    private static void atRefuses() {
        WolfFires x = Due.ring(4, 5);
        int[][] bad = {{-1, 0}, {2, 0}, {12, 0}, {0, -1}, {0, 6}, {Integer.MAX_VALUE, 3}, {Integer.MIN_VALUE, 4}};
        for (int[] b : bad) {
            Due.is("at(" + b[0] + ", " + b[1] + ")", x.at(b[0], b[1]), Due.BAD);
        }
        Due.is("at without wagons", new WolfFires().at(0, 0), Due.BAD);
    }

    private static void light() {
        WolfFires x = Due.ring(0);
        x.lays(0, 1, 9);
        Due.is("light of one alone", x.at(0, 3), 18);
        x.wagon(0);
        x.lays(1, 1, 2);
        Due.is("light of two, the other once", x.at(0, 3), 20);
        Due.is("light of two, the other once", x.at(1, 3), 13);
        x.wagon(0);
        x.lays(2, 1, 1);
        Due.is("light of three", x.at(0, 3), 21);
        Due.is("light of three", x.at(1, 3), 14);
        Due.is("light of three, round to the first", x.at(2, 3), 13);
        x.wagon(0);
        Due.is("light of four, no next but two", x.at(1, 3), 14);
        Due.is("light of four, the new one", x.at(3, 3), 10);
        Due.text(x, "light 200 - w");
        Due.is("light is held to 99", x.at(0, 3), 99);
        x.plain(0, 201);
        Due.is("light is held to 0", x.at(0, 3), 0);
        x.plain(0, 150);
        Due.is("light by wood", x.at(3, 3), 50);
    }

    private static void guardAndFears() {
        WolfFires x = Due.ring(3, 0, 0);
        x.lays(0, 1, 4);
        x.lays(0, 2, 7);
        x.watcher(0, 0, 9);
        x.watcher(2, 0, 2);
        x.watcher(0, 1, 5);
        x.watcher(0, 3, 5);
        Due.is("guard, none on", x.at(0, 4), 8);
        for (int k = 0; k < 4; k++) {
            x.set(k, 4, 1);
        }
        Due.is("guard: light 8, 9 + 2 and 2", x.at(0, 4), 21);
        Due.is("fears: guard and tried", x.at(0, 5), 28);
        Due.is("guard of the next: light 4, 5 + 1", x.at(1, 4), 10);
        Due.is("guard where no one is", x.at(2, 4), 4);
        Due.text(x, "fear g * 100 - h * t");
        Due.is("fears are held to 999", x.at(0, 5), 999);
        x.plain(2, 99);
        x.lays(2, 2, 99);
        Due.is("fears are held to 0", x.at(2, 5), 0);
    }

    private static void lays() {
        WolfFires x = Due.ring(5, 6);
        Due.is("foals were", x.lays(0, 0, 99), 5);
        Due.is("foals were", x.lays(0, 0, 0), 99);
        Due.is("fire was", x.lays(1, 1, 9), 0);
        Due.is("fire was", x.lays(1, 1, 0), 9);
        Due.is("tried was", x.lays(1, 2, 99), 0);
        Due.is("tried was", x.lays(1, 2, 3), 99);
        Due.is("the other's tried", x.at(0, 2), 0);
        int[][] bad = {{2, 0, 1}, {-1, 0, 1}, {0, -1, 1}, {0, 3, 1}, {0, 0, 100}, {0, 0, -1}, {0, 1, 10}, {0, 1, -1},
            {0, 2, 100}, {0, 2, -1}};
        for (int[] b : bad) {
            Due.is("lays(" + b[0] + ", " + b[1] + ", " + b[2] + ")", x.lays(b[0], b[1], b[2]), Due.BAD);
        }
        Due.is("nothing changed", x.at(0, 0) * 100 + x.at(1, 2), 3);
    }

    private static void far() {
        WolfFires x = Due.ring(0);
        Due.is("far of one", x.far(0, 0), 0);
        for (int k = 1; k < 7; k++) {
            x.wagon(0);
        }
        int[] due = {0, 1, 2, 3, 3, 2, 1};
        for (int k = 0; k < 7; k++) {
            Due.is("far(0, " + k + ")", x.far(0, k), due[k]);
            Due.is("far(" + k + ", 0)", x.far(k, 0), due[k]);
        }
        Due.is("far(2, 6)", x.far(2, 6), 3);
        Due.is("far(-1, 0)", x.far(-1, 0), Due.BAD);
        Due.is("far(0, 7)", x.far(0, 7), Due.BAD);
        Due.is("far(7, 0)", x.far(7, 0), Due.BAD);
        Due.is("far(0, -1)", x.far(0, -1), Due.BAD);
    }

    private static void plain() {
        WolfFires x = new WolfFires();
        Due.is("wood was", x.plain(0, 9999), 100);
        Due.is("wood was", x.plain(0, 0), 9999);
        Due.is("wolves were", x.plain(1, 99), 3);
        Due.is("wolves were", x.plain(1, 0), 99);
        Due.is("hunger was", x.plain(2, 99), 5);
        Due.is("hunger was", x.plain(2, 7), 99);
        Due.is("wood is", x.count(3), 0);
        Due.is("wolves are", x.count(4), 0);
        Due.is("hunger is", x.count(5), 7);
        int[][] bad = {{0, 10000}, {0, -1}, {1, 100}, {1, -1}, {2, 100}, {2, -1}, {3, 0}, {-1, 0}};
        for (int[] b : bad) {
            Due.is("plain(" + b[0] + ", " + b[1] + ")", x.plain(b[0], b[1]), Due.BAD);
        }
    }
}
