/** Promises 7 to 13: watcher, told, as, turns, set, deal, seed. */
public final class WatcherTest {
    private static final int WATCHER = 0, OLD = 1, DOG = 2, LAME = 3, BITCH = 4, BOY = 5;

    public static void main(String[] args) {
        watcher();
        told();
        sees();
        worth();
        as();
        turns();
        set();
        deal();
        seed();
        Due.ends("WatcherTest");
    }

    private static void watcher() {
        WolfFires x = new WolfFires();
        int[][] bad = {{-1, 0, 1}, {6, 0, 1}, {0, -1, 1}, {0, 12, 1}, {0, 0, 0}, {0, 0, 10}};
        for (int[] b : bad) {
            Due.is("watcher(" + b[0] + ", " + b[1] + ", " + b[2] + ")", x.watcher(b[0], b[1], b[2]), Due.BAD);
        }
        for (int k = 0; k < 8; k++) {
            Due.is("watcher " + k, x.watcher(k % 6, 11 - k, 9 - k), k);
            Due.is("kind", x.told(k, 0), k % 6);
            Due.is("at", x.told(k, 1), 11 - k);
            Due.is("eyes", x.told(k, 2), 9 - k);
            Due.is("tired", x.told(k, 3), 0);
            Due.is("on", x.told(k, 4), 0);
        }
        Due.is("watcher 9", x.watcher(0, 0, 1), Due.FULL);
        Due.is("BAD stands ahead of FULL", x.watcher(6, 0, 1), Due.BAD);
        Due.is("count(1)", x.count(1), 8);
    }

    private static void told() {
        WolfFires x = new WolfFires();
        x.watcher(0, 0, 5);
        int[][] bad = {{1, 0}, {-1, 0}, {0, -1}, {0, 7}, {8, 0}};
        for (int[] b : bad) {
            Due.is("told(" + b[0] + ", " + b[1] + ")", x.told(b[0], b[1]), Due.BAD);
        }
    }

    private static int seen(int kind, int eyes, int tired, int fire, int foals) {
        WolfFires x = Due.ring(foals);
        x.lays(0, 1, fire);
        x.watcher(kind, 0, eyes);
        x.set(0, 3, tired);
        Due.is("not on, it sees", x.told(0, 5), 0);
        x.set(0, 4, 1);
        int sees = x.told(0, 5);
        Due.is("guard is light and sight", x.at(0, 4), 2 * fire + sees);
        return sees;
    }

    private static void sees() {
        Due.is("watcher", seen(WATCHER, 5, 0, 0, 0), 5);
        Due.is("watcher, light 7 / 4", seen(WATCHER, 5, 9, 3, 0), 6);
        Due.is("watcher, tired 10", seen(WATCHER, 5, 10, 4, 0), 6);
        Due.is("watcher, tired 999: 0 at least, and light", seen(WATCHER, 5, 999, 4, 0), 2);
        Due.is("old, half", seen(OLD, 7, 0, 0, 0), 3);
        Due.is("old, half of all", seen(OLD, 7, 0, 2, 0), 4);
        Due.is("old, tired", seen(OLD, 7, 999, 0, 0), 0);
        Due.is("lame", seen(LAME, 7, 0, 2, 0), 5);
        Due.is("lame, tired", seen(LAME, 7, 999, 0, 0), 1);
        Due.is("dog", seen(DOG, 7, 999, 9, 5), 7);
        Due.is("bitch, no foals", seen(BITCH, 7, 999, 9, 0), 7);
        Due.is("bitch, a foal", seen(BITCH, 7, 999, 9, 1), 10);
        Due.is("boy, tired 5", seen(BOY, 7, 5, 2, 0), 8);
        Due.is("boy, tired 6", seen(BOY, 7, 6, 2, 0), 0);
        WolfFires x = Due.ring(5);
        x.watcher(BITCH, 1, 5);
        x.watcher(LAME, 11, 5);
        x.set(0, 4, 1);
        x.set(1, 4, 1);
        Due.is("at no wagon, a bitch sees", x.told(0, 5), 0);
        Due.is("at no wagon, a lame one sees", x.told(1, 5), 0);
        x.wagon(0);
        Due.is("the wagon came", x.told(0, 5), 5);
    }

    private static void worth() {
        int[] due = {6, 10, 14, 20, 23, 2};
        for (int kind = 0; kind < 6; kind++) {
            WolfFires x = new WolfFires();
            x.watcher(kind, 0, 6);
            Due.is("worth of kind " + kind, x.told(0, 6), due[kind]);
        }
    }

    private static void as() {
        int[] under = {0b000001, 0b000011, 0b000101, 0b001011, 0b010101, 0b100001};
        for (int kind = 0; kind < 6; kind++) {
            WolfFires x = new WolfFires();
            x.watcher(kind, 0, 7);
            for (int as = 0; as < 6; as++) {
                boolean is = (under[kind] >> as & 1) == 1;
                Due.is("kind " + kind + " as " + as, x.as(0, as), is ? 7 : Due.KIND);
            }
            Due.is("as(0, 6)", x.as(0, 6), Due.BAD);
            Due.is("as(0, -1)", x.as(0, -1), Due.BAD);
            Due.is("as(1, 0)", x.as(1, 0), Due.BAD);
            Due.is("as(-1, 0)", x.as(-1, 0), Due.BAD);
        }
    }

    private static void turns() {
        WolfFires x = new WolfFires();
        x.watcher(LAME, 0, 7);
        Due.is("turns", x.turns(0, DOG), LAME);
        Due.is("turns", x.turns(0, DOG), DOG);
        Due.is("worth then", x.told(0, 6), 13);
        Due.is("eyes stay", x.told(0, 2), 7);
        Due.is("turns(0, 6)", x.turns(0, 6), Due.BAD);
        Due.is("turns(0, -1)", x.turns(0, -1), Due.BAD);
        Due.is("turns(1, 0)", x.turns(1, 0), Due.BAD);
        Due.is("turns(-1, 0)", x.turns(-1, 0), Due.BAD);
        Due.is("kind then", x.told(0, 0), DOG);
    }

    private static void set() {
        WolfFires x = new WolfFires();
        x.watcher(0, 3, 4);
        int[][] good = {{1, 0, 3}, {1, 11, 0}, {2, 1, 4}, {2, 9, 1}, {3, 999, 0}, {3, 0, 999}, {4, 1, 0}, {4, 0, 1}};
        for (int[] g : good) {
            Due.is("set(0, " + g[0] + ", " + g[1] + ")", x.set(0, g[0], g[1]), g[2]);
            Due.is("told then", x.told(0, g[0]), g[1]);
        }
        int[][] bad = {{0, 0, 0}, {0, 5, 0}, {0, 1, -1}, {0, 1, 12}, {0, 2, 0}, {0, 2, 10}, {0, 3, -1}, {0, 3, 1000},
            {0, 4, -1}, {0, 4, 2}, {1, 1, 0}, {-1, 1, 0}, {0, -1, 0}};
        for (int[] b : bad) {
            Due.is("set(" + b[0] + ", " + b[1] + ", " + b[2] + ")", x.set(b[0], b[1], b[2]), Due.BAD);
        }
        Due.is("nothing changed", x.told(0, 1) + x.told(0, 2) + x.told(0, 3) + x.told(0, 4), 20);
    }

    private static void deal() {
        WolfFires x = new WolfFires();
        Due.is("deal(0)", x.deal(0), Due.BAD);
        Due.is("deal(9)", x.deal(9), Due.BAD);
        Due.is("deal(-1)", x.deal(-1), Due.BAD);
        Due.is("no draw yet", x.count(11), 1);
        x.seed(-5);
        x.watcher(0, 0, 1);
        Due.is("deal(3)", x.deal(3), 3);
        Due.is("deal(8)", x.deal(8), 4);
        int z = -5;
        for (int k = 1; k < 8; k++) {
            int[] due = new int[3];
            for (int d = 0; d < 3; d++) {
                z = z * 1103515245 + 12345;
                due[d] = (z >>> 8) % new int[] {6, 12, 9}[d];
            }
            Due.is("kind", x.told(k, 0), due[0]);
            Due.is("at", x.told(k, 1), due[1]);
            Due.is("eyes", x.told(k, 2), 1 + due[2]);
            Due.is("tired and on", x.told(k, 3) + x.told(k, 4), 0);
        }
        Due.is("no draws for others", x.count(11), z);
        WolfFires y = new WolfFires();
        Due.is("deal(1)", y.deal(1), 1);
        Due.is("deal(8)", y.deal(8), 7);
        Due.is("no room", x.deal(2), 0);
        Due.is("no draws", x.count(11), z);
        Due.is("the first one stays", x.told(0, 2), 1);
    }

    private static void seed() {
        WolfFires x = new WolfFires();
        Due.is("seed", x.seed(Integer.MIN_VALUE), 1);
        Due.is("seed", x.seed(0), Integer.MIN_VALUE);
        Due.is("seed", x.seed(-1), 0);
        Due.is("count(11)", x.count(11), -1);
    }
}
