/** Promises 14 to 23: hours, night, behind, lasts, loss, dark, fires, watch, place, signs. */
public final class HourTest {
    public static void main(String[] args) {
        hoursBounds();
        burning();
        wolvesTake();
        wolvesDrivenOff();
        wolvesStay();
        tiring();
        night();
        behind();
        lasts();
        loss();
        dark();
        fires();
        firesByText();
        watch();
        place();
        signs();
        onlyThought();
        Due.ends("HourTest");
    }

    private static void hoursBounds() {
        WolfFires x = new WolfFires();
        Due.is("hours(0)", x.hours(0), Due.BAD);
        Due.is("hours(301)", x.hours(301), Due.BAD);
        Due.is("hours(-1)", x.hours(-1), Due.BAD);
        Due.is("no hour yet", x.count(6), 0);
        x.watcher(0, 0, 1);
        for (int k = 0; k < 33; k++) {
            Due.is("hours(300)", x.hours(300), 0);
        }
        Due.is("count(6)", x.count(6), 9900);
        x.wagon(99);
        x.plain(1, 99);
        Due.is("99 hours left", x.hours(300), 99);
        Due.is("count(6)", x.count(6), 9999);
        Due.is("slept", x.night(1), 9999);
        x.lays(0, 0, 99);
        Due.is("no hour left", x.hours(1), 0);
        Due.is("count(6)", x.count(6), 9999);
        Due.is("slept", x.night(1), 9999);
        Due.is("behind knows no bound", x.behind(2, 0), 101);
        Due.is("loss knows no bound", x.loss(), 1);
    }

    private static void burning() {
        WolfFires x = Due.ring(0, 0, 0);
        x.plain(0, 10);
        x.lays(0, 1, 4);
        x.lays(1, 1, 7);
        x.lays(2, 1, 6);
        x.hours(1);
        Due.is("the first burns", x.at(0, 1), 4);
        Due.is("the second goes out", x.at(1, 1), 0);
        Due.is("the third burns", x.at(2, 1), 6);
        Due.is("wood", x.count(3), 0);
        Due.is("burnt", x.night(2), 10);
        x.hours(1);
        Due.is("all are out", x.at(0, 1) + x.at(2, 1), 0);
        Due.is("burnt", x.night(2), 10);
    }

    private static void wolvesTake() {
        WolfFires x = Due.ring(1, 2);
        x.lays(0, 2, 1);
        x.lays(1, 2, 1);
        Due.is("of several the least", x.night(3), 0);
        Due.is("one is lost", x.hours(1), 1);
        Due.is("from wagon 0", x.at(0, 0), 0);
        Due.is("tried of it", x.at(0, 2), 0);
        Due.is("tried of the other", x.at(1, 2), 1);
        Due.is("hunger", x.count(5), 0);
        Due.is("lost", x.night(0), 1);
        Due.is("no foal there: driven off", x.hours(1), 0);
        Due.is("tried", x.at(0, 2), 1);
        Due.is("hunger", x.count(5), 1);
    }

    private static void wolvesDrivenOff() {
        WolfFires x = Due.ring(9);
        x.lays(0, 1, 4);
        Due.is("guard 8 is not less than 8", x.hours(1), 0);
        Due.is("tried", x.at(0, 2), 1);
        Due.is("hunger", x.count(5), 6);
        Due.is("guard 8 is less than 9", x.hours(1), 1);
        Due.is("tried", x.at(0, 2), 0);
        x = Due.ring(0);
        x.lays(0, 2, 98);
        x.plain(2, 98);
        x.hours(5);
        Due.is("tried, 99 at most", x.at(0, 2), 99);
        Due.is("hunger, 99 at most", x.count(5), 99);
        x = Due.ring(9, 9);
        x.lays(0, 1, 1);
        x.plain(0, 0);
        Due.is("they come behind the burning", x.hours(1), 1);
        Due.is("so to wagon 0", x.at(0, 0), 8);
    }

    private static void wolvesStay() {
        WolfFires x = Due.ring(9);
        x.plain(1, 0);
        Due.is("no wolves", x.hours(9), 0);
        Due.is("hunger stays", x.count(5), 5);
        Due.is("tried stays", x.at(0, 2), 0);
        Due.is("night(3)", x.night(3), Due.NONE);
        x = new WolfFires();
        x.hours(9);
        Due.is("no wagons: hunger stays", x.count(5), 5);
        Due.is("night(3)", x.night(3), Due.NONE);
        Due.is("the hour", x.count(6), 9);
    }

    private static void tiring() {
        WolfFires x = new WolfFires();
        x.watcher(0, 0, 5);
        x.watcher(2, 0, 7);
        x.watcher(5, 0, 7);
        x.set(0, 4, 1);
        x.set(1, 3, 3);
        x.set(2, 3, 998);
        x.set(2, 4, 1);
        x.hours(2);
        Due.is("on: 1 more each", x.told(0, 3), 2);
        Due.is("off: 2 less, 0 at least", x.told(1, 3), 0);
        x.set(1, 3, 30);
        x.hours(3);
        Due.is("off: 2 less each", x.told(1, 3), 24);
        x.set(0, 3, 2);
        Due.is("999 at most", x.told(2, 3), 999);
        Due.is("slept", x.night(1), 5);
        Due.text(x, "tire t * e - 3");
        x.hours(1);
        Due.is("by text: 2 * 5 - 3 more", x.told(0, 3), 9);
        x.hours(1);
        Due.is("by text: 42 more", x.told(0, 3), 51);
        x.hours(1);
        Due.is("by text: 99 more at most", x.told(0, 3), 150);
        Due.text(x, "tire 0 - 5");
        x.hours(1);
        Due.is("by text: 0 more at least", x.told(0, 3), 150);
    }

    private static void night() {
        WolfFires x = Due.ring(9, 9, 9);
        Due.is("night(-1)", x.night(-1), Due.BAD);
        Due.is("night(4)", x.night(4), Due.BAD);
        x.lays(0, 2, 2);
        x.lays(1, 2, 1);
        x.lays(2, 2, 1);
        Due.is("the least fears", x.night(3), 1);
        x.lays(2, 2, 0);
        Due.is("as it is now", x.night(3), 2);
        x.lays(2, 1, 1);
        Due.is("as the light is now", x.night(3), 1);
        x.lays(2, 1, 0);
        Due.text(x, "fear 50 - t");
        Due.is("the least fears by text", x.night(3), 0);
    }

    private static void behind() {
        WolfFires x = Due.ring(5, 6);
        x.plain(0, 9);
        x.lays(0, 1, 2);
        x.hours(1);
        int[] now = {x.night(0), x.count(3), x.count(5), x.count(7)};
        for (int what = 0; what < 4; what++) {
            Due.is("behind(0, " + what + ")", x.behind(0, what), now[what]);
        }
        WolfFires y = Due.ring(5, 6);
        y.plain(0, 9);
        y.lays(0, 1, 2);
        y.hours(8);
        Due.is("behind(7, 0)", x.behind(7, 0), y.night(0));
        Due.is("behind(7, 1)", x.behind(7, 1), y.count(3));
        Due.is("behind(7, 2)", x.behind(7, 2), y.count(5));
        Due.is("behind(7, 3)", x.behind(7, 3), y.count(7));
        Due.is("behind(300, 3)", x.behind(300, 3), 0);
        Due.is("behind(301, 0)", x.behind(301, 0), Due.BAD);
        Due.is("behind(-1, 0)", x.behind(-1, 0), Due.BAD);
        Due.is("behind(1, 4)", x.behind(1, 4), Due.BAD);
        Due.is("behind(1, -1)", x.behind(1, -1), Due.BAD);
    }

    private static void lasts() {
        WolfFires x = Due.ring(0, 0);
        x.plain(0, 0);
        Due.is("no fires", x.lasts(), Due.NONE);
        x.lays(1, 1, 1);
        Due.is("no wood", x.lasts(), 1);
        x.plain(0, 299);
        Due.is("in the last hour", x.lasts(), 300);
        x.plain(0, 300);
        Due.is("not by then", x.lasts(), Due.NONE);
        x.lays(0, 1, 9);
        x.plain(0, 28);
        Due.is("two hours, and one of the fires", x.lasts(), 3);
        Due.is("it was only thought", x.count(3) + x.at(0, 1), 37);
    }

    private static void loss() {
        WolfFires x = Due.ring(9);
        x.lays(0, 1, 9);
        x.plain(0, 9999);
        Due.is("guard 18, wolves and hunger 8: 12th hour", x.loss(), 12);
        x.plain(1, 0);
        Due.is("no wolves", x.loss(), Due.NONE);
        x = Due.ring(9);
        x.hours(2);
        Due.is("more than now", x.loss(), 1);
        WolfFires y = Due.ring(0);
        Due.is("no foals", y.loss(), Due.NONE);
        // As long as there is wood, light 99 and a dog's 9 are enough for one wolf of any hunger.
        y = Due.ring(9);
        Due.text(y, "light 99 * (w > 0)");
        y.lays(0, 1, 1);
        y.plain(1, 1);
        y.watcher(2, 0, 9);
        y.set(0, 4, 1);
        y.plain(0, 300);
        Due.is("in the last hour", y.loss(), 300);
        y.plain(0, 301);
        Due.is("not by then", y.loss(), Due.NONE);
        int[] guards = {99, 98};
        for (int hunger : guards) {
            WolfFires z = Due.ring(9);
            Due.text(z, "light w");
            z.plain(0, 99);
            z.plain(1, 1);
            z.plain(2, hunger);
            Due.is("guard 99, hunger " + hunger, z.loss(), hunger == 99 ? 1 : 2);
        }
    }

    private static void dark() {
        WolfFires x = new WolfFires();
        Due.is("no wagons", x.dark(100), 0);
        for (int k = 0; k < 12; k++) {
            x.wagon(0);
        }
        x.lays(3, 1, 5);
        Due.is("dark(0)", x.dark(0), 0);
        Due.is("dark(1)", x.dark(1), 0b111111100011);
        Due.is("dark(5)", x.dark(5), 0b111111100011);
        Due.is("dark(6)", x.dark(6), 0b111111110111);
        Due.is("dark(10)", x.dark(10), 0b111111110111);
        Due.is("dark(11)", x.dark(11), 0b111111111111);
        Due.text(x, "light 99");
        Due.is("dark(99)", x.dark(99), 0);
        Due.is("dark(100)", x.dark(100), 4095);
        Due.is("dark(101)", x.dark(101), Due.BAD);
        Due.is("dark(-1)", x.dark(-1), Due.BAD);
    }

    private static void fires() {
        WolfFires x = new WolfFires();
        Due.is("no wagons", x.fires(0, 0), Due.NONE);
        Due.is("BAD stands ahead of NONE", x.fires(19, 0), Due.BAD);
        x.wagon(0);
        firesAre(x, 18, 6, 3, 3);
        firesAre(x, 2, 4, 2, 2);
        x.wagon(0);
        firesAre(x, 1, 1, 1, 1);
        firesAre(x, 2, 3, 2, 5);
        x.wagon(0);
        firesAre(x, 1, 1, 1, 1);
        firesAre(x, 2, 2, 2, 2);
        firesAre(x, 18, 12, 9, 63);
        x.wagon(0);
        firesAre(x, 2, 2, 2, 17);
        x.wagon(0);
        x.wagon(0);
        x.lays(0, 1, 9);
        firesAre(x, 0, 0, 0, 0);
        firesAre(x, 2, 1, 2, 65);
        firesAre(x, 18, 12, 18, 4095);
        Due.is("the fires stay", x.at(0, 1), 9);
        Due.is("fires(-1, 0)", x.fires(-1, 0), Due.BAD);
        Due.is("fires(1, -1)", x.fires(1, -1), Due.BAD);
        Due.is("fires(1, 3)", x.fires(1, 3), Due.BAD);
        x.wagon(0);
        Due.is("seven wagons", x.fires(1, 0), Due.NONE);
        Due.is("BAD stands ahead of NONE", x.fires(1, 3), Due.BAD);
    }

    private static void firesAre(WolfFires x, int w, int light, int together, int digits) {
        String of = " of " + x.count(0);
        Due.is("fires(" + w + ", 0)" + of, x.fires(w, 0), light);
        Due.is("fires(" + w + ", 1)" + of, x.fires(w, 1), together);
        Due.is("fires(" + w + ", 2)" + of, x.fires(w, 2), digits);
    }

    private static void firesByText() {
        WolfFires x = Due.ring(0, 0, 0);
        Due.text(x, "light 9 - f * 2 - n + w / 50");
        firesAre(x, 9, 11, 0, 0);
        Due.text(x, "light (f = 2) * 7 + (n = 4) * 20");
        firesAre(x, 9, 27, 6, 42);
        firesAre(x, 5, 7, 4, 10);
        firesAre(x, 3, 0, 0, 0);
        Due.text(x, "light 500");
        firesAre(x, 5, 99, 0, 0);
    }

    private static void watch() {
        WolfFires x = Due.ring(30, 30);
        Due.is("no watchers", x.watch(1, 0), Due.NONE);
        Due.is("no watchers", x.watch(1, 1), Due.NONE);
        Due.is("BAD stands ahead of NONE", x.watch(0, 0), Due.BAD);
        x.plain(1, 8);
        x.plain(2, 0);
        x.watcher(2, 5, 9);
        x.watcher(2, 0, 9);
        x.watcher(2, 1, 9);
        x.set(0, 4, 1);
        // They come to the wagon where none is and take one by the hour, whoever watches.
        Due.is("all the same: the least", x.watch(3, 0), 0);
        Due.is("lost then", x.watch(3, 1), 3);
        WolfFires y = Due.ring(30);
        y.plain(1, 8);
        y.plain(2, 0);
        y.watcher(2, 0, 2);
        y.watcher(2, 0, 9);
        y.watcher(2, 0, 9);
        y.hours(1);
        Due.is("the first who sees enough", y.watch(2, 0), 1);
        Due.is("lost then, and ahead", y.watch(2, 1), 1);
        Due.is("not on still", y.count(2), 0);
        y.set(2, 4, 1);
        Due.is("all others are not on", y.watch(1, 0), 1);
        y = Due.ring(30);
        y.plain(1, 8);
        y.plain(2, 0);
        y.watcher(2, 0, 7);
        y.watcher(2, 0, 2);
        y.watcher(2, 0, 8);
        y.set(0, 4, 1);
        Due.is("the first is not on either", y.watch(1, 0), 2);
        Due.is("lost then", y.watch(1, 1), 0);
        Due.is("watch(0, 0)", x.watch(0, 0), Due.BAD);
        Due.is("watch(61, 0)", x.watch(61, 0), Due.BAD);
        Due.is("watch(1, 2)", x.watch(1, 2), Due.BAD);
        Due.is("watch(1, -1)", x.watch(1, -1), Due.BAD);
        // 30 of the wagon without a dog; then they are driven off there till the other is feared as little.
        Due.is("watch(60, 0)", x.watch(60, 0), 1);
        Due.is("watch(60, 1)", x.watch(60, 1), 37);
    }

    private static void place() {
        WolfFires x = new WolfFires();
        Due.is("no watcher", x.place(0, 1), Due.BAD);
        x.watcher(2, 0, 9);
        Due.is("no wagons", x.place(0, 1), Due.NONE);
        Due.is("BAD stands ahead of NONE", x.place(0, 0), Due.BAD);
        x.wagon(0);
        x.wagon(9);
        x.wagon(9);
        // Only wagon 1 has foals and is feared least: there the dog drives them off.
        x.lays(0, 2, 30);
        x.lays(2, 2, 30);
        x.plain(1, 5);
        x.plain(2, 0);
        Due.is("where it helps", x.place(0, 3), 1);
        Due.is("it stays", x.told(0, 1) + x.told(0, 4), 0);
        x.plain(1, 0);
        Due.is("of several the least", x.place(0, 60), 0);
        x.plain(1, 12);
        x.watcher(2, 1, 4);
        x.set(1, 4, 1);
        Due.is("with the other as it is", x.place(0, 1), 1);
        x.set(1, 4, 0);
        Due.is("the other is not on", x.place(0, 1), 0);
        Due.is("place(0, 61)", x.place(0, 61), Due.BAD);
        Due.is("place(-1, 1)", x.place(-1, 1), Due.BAD);
        Due.is("place(2, 1)", x.place(2, 1), Due.BAD);
    }

    private static void signs() {
        WolfFires x = Due.ring(10, 10);
        Due.is("missing", x.signs(0, 1, 0), Due.NOTHING);
        Due.is("BAD stands ahead of NOTHING", x.signs(0, 61, 0), Due.BAD);
        x.sheet(0, 1, 4);
        x.mark(0, 0, 9);
        x.mark(0, 1, Due.NONE);
        x.mark(0, 2, -3);
        x.mark(0, 3, -40);
        x.lays(0, 1, 9);
        x.lays(1, 2, 50);
        // Guard 18, hunger 5: 14 wolves take one in the first hour, fewer do not.
        Due.is("wolves", x.signs(0, 1, 0), 14);
        Due.is("differences", x.signs(0, 1, 1), 43);
        Due.is("none behind 0 hours", x.signs(0, 0, 0), 0);
        Due.is("differences behind 0 hours", x.signs(0, 0, 1), 44);
        Due.is("wolves are as they were", x.count(4), 3);
        x.lays(0, 1, 0);
        x.plain(2, 0);
        Due.text(x, "light 39");
        Due.is("40 at most", x.signs(0, 1, 0), 40);
        Due.text(x, "light 40");
        Due.is("41 are not looked at", x.signs(0, 1, 0), 0);
        x.sheet(1, 0, 0);
        Due.is("no places", x.signs(1, 60, 0), 0);
        Due.is("no places", x.signs(1, 60, 1), 0);
        int[][] bad = {{-1, 1, 0}, {4, 1, 0}, {0, -1, 0}, {0, 61, 0}, {0, 1, 2}, {0, 1, -1}};
        for (int[] b : bad) {
            Due.is("signs(" + b[0] + ", " + b[1] + ", " + b[2] + ")", x.signs(b[0], b[1], b[2]), Due.BAD);
        }
    }

    private static void onlyThought() {
        WolfFires x = Due.ring(9, 8, 7);
        x.lays(0, 1, 3);
        x.deal(4);
        x.set(0, 4, 1);
        x.sheet(0, 0, 3);
        x.keep();
        long[] was = all(x);
        x.behind(40, 0);
        x.lasts();
        x.loss();
        x.dark(3);
        x.fires(7, 2);
        x.watch(30, 0);
        x.place(1, 30);
        x.signs(0, 30, 0);
        x.night(3);
        x.check(20);
        long[] is = all(x);
        for (int k = 0; k < was.length; k++) {
            Due.is("what was " + k, is[k], was[k]);
        }
    }

    private static long[] all(WolfFires x) {
        long[] row = new long[12 + 3 + 4 * 5 + 3 * 6];
        int n = 0;
        for (int k = 0; k < 12; k++) {
            row[n++] = x.count(k);
        }
        for (int k = 0; k < 3; k++) {
            row[n++] = x.night(k);
        }
        for (int k = 0; k < 4; k++) {
            for (int what = 0; what < 5; what++) {
                row[n++] = x.told(k, what);
            }
        }
        for (int k = 0; k < 3; k++) {
            for (int what = 0; what < 6; what++) {
                row[n++] = x.at(k, what);
            }
        }
        return row;
    }
}
