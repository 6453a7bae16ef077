/** Promises 29 to 37: sheet, mark, pour, reads, copy, lay, ask, item, rest. */
public final class SheetTest {
    public static void main(String[] args) {
        sheet();
        mark();
        pour();
        reads();
        copy();
        copyOverItself();
        lay();
        ask();
        item();
        rest();
        Due.ends("SheetTest");
    }

    /** A place of a sheet, by a slot. */
    private static int at(WolfFires x, int sheet, int place) {
        x.lay(4, 2, sheet);
        return x.item(4, place);
    }

    private static void sheet() {
        WolfFires x = new WolfFires();
        Due.is("sheet(0, 0, 24)", x.sheet(0, 0, 24), 24);
        Due.is("sheet(3, 1, 0)", x.sheet(3, 1, 0), 0);
        Due.is("a row of none", x.reads(3), Due.NONE);
        int[][] bad = {{-1, 0, 1}, {4, 0, 1}, {0, -2, 1}, {0, 2, 1}, {0, 0, 25}, {0, 1, 25}, {4, 0, -1}, {0, 2, -1}, {4, -1, 0}};
        for (int[] b : bad) {
            Due.is("sheet(" + b[0] + ", " + b[1] + ", " + b[2] + ")", x.sheet(b[0], b[1], b[2]), Due.BAD);
        }
        Due.is("sheet(0, 1, -1)", x.sheet(0, 1, -1), Due.SIZE);
        Due.is("sheet(0, 0, least)", x.sheet(0, 0, Integer.MIN_VALUE), Due.SIZE);
        x.mark(0, 23, 5);
        Due.is("it stayed", at(x, 0, 23), 5);
        x.sheet(0, 0, 24);
        Due.is("all 0", at(x, 0, 23), 0);
        Due.is("missing", x.sheet(0, -1, 99), 0);
        Due.is("it is", x.mark(0, 0, 1), Due.NOTHING);
        Due.is("missing, below 0", x.sheet(3, -1, -7), 0);
        Due.is("it is", x.reads(3), Due.NOTHING);
    }

    private static void mark() {
        WolfFires x = new WolfFires();
        Due.is("missing", x.mark(0, 0, 1), Due.NOTHING);
        Due.is("mark(4, ..)", x.mark(4, 0, 1), Due.BAD);
        Due.is("mark(-1, ..)", x.mark(-1, 0, 1), Due.BAD);
        x.sheet(0, 0, 3);
        x.sheet(1, 1, 3);
        for (int k = 0; k < 2; k++) {
            Due.is("place 3", x.mark(k, 3, Due.NONE), Due.INDEX);
            Due.is("place -1", x.mark(k, -1, 1000000), Due.INDEX);
        }
        Due.is("NONE of shorts", x.mark(0, 0, Due.NONE), Due.KIND);
        Due.is("BAD of floats", x.mark(1, 0, 100000), Due.BAD);
        Due.is("BAD of floats", x.mark(1, 0, -100000), Due.BAD);
        int[][] shorts = {{32767, 32767}, {32768, -32768}, {65535, -1}, {65536, 0}, {-32769, 32767}, {Integer.MAX_VALUE, -1},
            {Integer.MIN_VALUE, 0}, {-1, -1}};
        for (int[] s : shorts) {
            Due.is("mark(0, 1, " + s[0] + ")", x.mark(0, 1, s[0]), 1);
            Due.is("its lowest 16 bits", at(x, 0, 1), s[1]);
        }
        for (int v : new int[] {99999, -99999, 0, 70000}) {
            Due.is("mark(1, 2, " + v + ")", x.mark(1, 2, v), 1);
            Due.is("as it is", at(x, 1, 2), v);
        }
        Due.is("no number", x.mark(1, 2, Due.NONE), 1);
        Due.is("it is none", at(x, 1, 2), Due.KIND);
        Due.is("the others stay", at(x, 0, 0) + at(x, 0, 2) + at(x, 1, 0), 0);
    }

    private static void pour() {
        WolfFires x = Due.ring(1, 2, 3, 4, 5);
        Due.is("pour(-1)", x.pour(-1), Due.BAD);
        Due.is("pour(4)", x.pour(4), Due.BAD);
        Due.is("missing", x.pour(0), Due.NOTHING);
        x.sheet(0, 1, 4);
        x.mark(0, 0, 1);
        x.mark(0, 1, -50);
        x.mark(0, 2, Due.NONE);
        x.mark(0, 3, 100);
        Due.is("otherwise then", x.pour(0), 2);
        int[] due = {1, 0, 3, 99, 5};
        for (int k = 0; k < 5; k++) {
            Due.is("foals of " + k, x.at(k, 0), due[k]);
        }
        Due.is("none otherwise", x.pour(0), 0);
        x.sheet(1, 0, 24);
        Due.is("more places than wagons", x.pour(1), 4);
        Due.is("no foals", x.count(7), 0);
        x.mark(1, 5, 7);
        Due.is("a place that is no wagon", x.pour(1), 0);
    }

    private static void reads() {
        WolfFires x = Due.ring(0, 0);
        Due.is("reads(-1)", x.reads(-1), Due.BAD);
        Due.is("reads(4)", x.reads(4), Due.BAD);
        Due.is("missing", x.reads(2), Due.NOTHING);
        x.lays(0, 1, 3);
        x.sheet(2, 1, 4);
        Due.is("reads", x.reads(2), 0);
        x.mark(2, 0, 6);
        Due.is("reads", x.reads(2), 1);
        x.mark(2, 1, Due.NONE);
        Due.is("no number, and no wagon", x.reads(2), 2);
        x.mark(2, 2, Due.NONE);
        Due.is("no number, and no wagon", x.reads(2), 3);
        x.mark(2, 3, Due.NONE);
        Due.is("there is none", x.reads(2), Due.NONE);
        x.mark(2, 1, 3);
        Due.is("there is none", x.reads(2), Due.NONE);
        Due.text(x, "light w");
        Due.is("light by text", x.reads(2), 0);
    }

    private static void copy() {
        WolfFires x = new WolfFires();
        x.sheet(0, 0, 5);
        x.sheet(1, 0, 3);
        x.sheet(2, 1, 3);
        for (int k = 0; k < 5; k++) {
            x.mark(0, k, 10 + k);
        }
        Due.is("copy", x.copy(0, 3, 1, 1, 2), 2);
        Due.is("place 0", at(x, 1, 0), 0);
        Due.is("place 1", at(x, 1, 1), 13);
        Due.is("place 2", at(x, 1, 2), 14);
        Due.is("none", x.copy(0, 5, 1, 3, 0), 0);
        x.sheet(3, 0, 5);
        Due.is("all", x.copy(0, 0, 3, 0, 5), 5);
        Due.is("the last", at(x, 3, 4), 14);
        x.sheet(3, -1, 0);
        int[][] index = {{0, 6, 1, 0, 0}, {0, 0, 1, 4, 0}, {0, -1, 1, 0, 1}, {0, 0, 1, -1, 1}, {0, 4, 1, 0, 2},
            {0, 0, 1, 2, 2}, {0, 0, 1, 0, -1}, {0, 0, 1, 0, 4}, {0, 1, 1, 0, Integer.MAX_VALUE},
            {0, Integer.MAX_VALUE, 1, 0, 1}, {0, 0, 1, Integer.MAX_VALUE, 1}, {0, Integer.MIN_VALUE, 1, 0, Integer.MIN_VALUE}};
        for (int[] b : index) {
            Due.is("copy(" + b[0] + ", " + b[1] + ", " + b[2] + ", " + b[3] + ", " + b[4] + ")",
                x.copy(b[0], b[1], b[2], b[3], b[4]), Due.INDEX);
        }
        Due.is("KIND ahead of INDEX", x.copy(0, 9, 2, 9, 9), Due.KIND);
        Due.is("NOTHING ahead of KIND", x.copy(2, 9, 3, 9, 9), Due.NOTHING);
        Due.is("NOTHING ahead of INDEX", x.copy(3, 9, 0, 9, 9), Due.NOTHING);
        Due.is("BAD ahead of NOTHING", x.copy(3, 0, 4, 0, 0), Due.BAD);
        Due.is("BAD ahead of NOTHING", x.copy(-1, 0, 3, 0, 0), Due.BAD);
        x.mark(2, 0, Due.NONE);
        x.copy(2, 0, 2, 2, 1);
        Due.is("no number is copied", at(x, 2, 2), Due.KIND);
    }

    private static void copyOverItself() {
        for (int shift = -1; shift <= 1; shift += 2) {
            WolfFires x = new WolfFires();
            x.sheet(0, 0, 5);
            for (int k = 0; k < 5; k++) {
                x.mark(0, k, 10 + k);
            }
            Due.is("copy", x.copy(0, 1, 0, 1 + shift, 3), 3);
            for (int k = 1; k <= 3; k++) {
                Due.is("as they were", at(x, 0, k + shift), 10 + k);
            }
        }
    }

    private static void lay() {
        WolfFires x = new WolfFires();
        x.watcher(0, 0, 5);
        x.sheet(0, 0, 2);
        int[][] bad = {{-1, 0, 0}, {5, 0, 0}, {0, -1, 0}, {0, 4, 0}, {0, 1, 1}, {0, 1, -1}, {0, 2, 4}, {0, 2, -1}};
        for (int[] b : bad) {
            Due.is("lay(" + b[0] + ", " + b[1] + ", " + b[2] + ")", x.lay(b[0], b[1], b[2]), Due.BAD);
        }
        Due.is("that sheet is missing", x.lay(0, 2, 1), Due.NOTHING);
        Due.is("nothing, k any", x.lay(0, 0, -77), 0);
        Due.is("a watcher", x.lay(0, 1, 0), 0);
        Due.is("a sheet", x.lay(0, 2, 0), 1);
        Due.is("a number", x.lay(0, 3, Integer.MIN_VALUE), 2);
        Due.is("refused", x.lay(0, 2, 1), Due.NOTHING);
        Due.is("nothing", x.lay(0, 0, 4), 3);
        Due.is("nothing", x.lay(0, 0, 4), 0);
        Due.is("the other slots", x.lay(4, 3, 1), 0);
    }

    private static void ask() {
        WolfFires x = new WolfFires();
        x.watcher(3, 0, 5);
        x.lay(0, 1, 0);
        x.lay(1, 3, 7);
        x.turns(0, 5);
        x.set(0, 2, 9);
        Due.is("as it was then", x.ask(0, 0), 18);
        Due.is("as old", x.ask(0, 1), 18);
        Due.is("as lame", x.ask(0, 3), 18);
        Due.is("as dog", x.ask(0, 2), Due.KIND);
        Due.is("as boy", x.ask(0, 5), Due.KIND);
        Due.is("a number", x.ask(1, 0), Due.KIND);
        Due.is("nothing", x.ask(2, 0), Due.NOTHING);
        Due.is("ask(2, 6)", x.ask(2, 6), Due.BAD);
        Due.is("ask(0, -1)", x.ask(0, -1), Due.BAD);
        Due.is("ask(5, 0)", x.ask(5, 0), Due.BAD);
        Due.is("ask(-1, 0)", x.ask(-1, 0), Due.BAD);
        x.lay(0, 1, 0);
        Due.is("the boy", x.ask(0, 5), 2);
        Due.is("the boy is no lame one", x.ask(0, 3), Due.KIND);
    }

    private static void item() {
        WolfFires x = new WolfFires();
        x.sheet(0, 1, 2);
        x.mark(0, 0, -5);
        x.mark(0, 1, Due.NONE);
        x.lay(0, 2, 0);
        x.lay(1, 3, 0);
        x.mark(0, 0, 6);
        x.sheet(0, -1, 0);
        Due.is("a row of its own", x.item(0, 0), -5);
        Due.is("no number", x.item(0, 1), Due.KIND);
        Due.is("place 2", x.item(0, 2), Due.INDEX);
        Due.is("place -1", x.item(0, -1), Due.INDEX);
        Due.is("no sheet", x.item(1, 99), Due.KIND);
        Due.is("nothing", x.item(2, 99), Due.NOTHING);
        Due.is("item(5, 0)", x.item(5, 0), Due.BAD);
        Due.is("item(-1, 0)", x.item(-1, 0), Due.BAD);
    }

    private static void rest() {
        WolfFires x = new WolfFires();
        x.sheet(0, 0, 1);
        x.lay(0, 3, -17);
        x.lay(1, 2, 0);
        x.lay(2, 3, Integer.MIN_VALUE);
        Due.is("rest(0, 5)", x.rest(0, 5), -2);
        Due.is("rest(0, -5)", x.rest(0, -5), -2);
        Due.is("rest(2, -1)", x.rest(2, -1), 0);
        Due.is("rest(2, 10)", x.rest(2, 10), -8);
        Due.is("n is 0", x.rest(0, 0), Due.NO);
        Due.is("no number", x.rest(1, 0), Due.KIND);
        Due.is("nothing", x.rest(3, 0), Due.NOTHING);
        Due.is("rest(5, 0)", x.rest(5, 0), Due.BAD);
        Due.is("rest(-1, 1)", x.rest(-1, 1), Due.BAD);
    }
}
