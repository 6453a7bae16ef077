/** Promises 38 to 42: tell, check, keep, back, count. */
public final class RowTest {
    public static void main(String[] args) {
        tell();
        check();
        checkUsesUp();
        checkNearTheEnd();
        images();
        imageLeavesOut();
        newOnesBehindBack();
        imagesOfTexts();
        count();
        Due.ends("RowTest");
    }

    private static void tell() {
        WolfFires x = new WolfFires();
        for (int k = 1; k <= 60; k++) {
            Due.is("tell", x.tell(-k), k);
        }
        Due.is("60 wait", x.tell(0), Due.FULL);
        Due.is("count(9)", x.count(9), 60);
    }

    private static int told(WolfFires x, int n, int... row) {
        for (int v : row) {
            x.tell(v);
        }
        return x.check(n);
    }

    private static void check() {
        WolfFires x = Due.ring(1, 1);
        x.plain(0, 5);
        x.lays(1, 1, 2);
        x.keep();
        x.wagon(9);
        x.plain(0, 0);
        // Hour 1: light 2 and 4, to wagon 0, one lost; hour 2: wagon 0 again, no foal; hour 3: no wood.
        Due.is("right", told(x, 1, 0, 301), 0);
        Due.is("right", told(x, 3, 0, 301, 0, 101, 1, 102), 0);
        Due.is("the first is not", told(x, 3, 1, 301, 0, 101, 1, 102), 1);
        Due.is("the second is not", told(x, 3, 0, 300, 0, 101, 1, 102), 2);
        Due.is("the last is not", told(x, 3, 0, 301, 0, 101, 1, 101), 6);
        Due.is("the last is missing", told(x, 3, 0, 301, 0, 101, 1), 6);
        Due.is("two are missing", told(x, 3, 0, 301, 0, 101), 5);
        Due.is("all are missing", told(x, 3), 1);
        Due.is("one too many", told(x, 1, 0, 301, 0), 3);
        Due.is("two too many", told(x, 1, 0, 301, 0, 101), 3);
        Due.is("nothing changed", x.count(0), 3);
        x = Due.ring(5);
        x.plain(1, 0);
        x.keep();
        Due.is("they do not come", told(x, 2, 99, 10000, 99, 10000), 0);
        int[] row = new int[60];
        for (int k = 0; k < 60; k++) {
            row[k] = k % 2 == 0 ? 99 : 10000;
        }
        Due.is("30 hours", told(x, 30, row), 0);
        row[59] = 0;
        Due.is("30 hours, the last not", told(x, 30, row), 60);
        Due.is("29 hours, one too many", told(x, 29, row), 59);
    }

    private static void checkUsesUp() {
        WolfFires x = new WolfFires();
        Due.is("BAD stands ahead of NO", told(x, 31, 1, 2), Due.BAD);
        Due.is("none wait", x.count(9), 0);
        Due.is("no image", told(x, 1, 1, 2), Due.NO);
        Due.is("none wait", x.count(9), 0);
        Due.is("check(0)", told(x, 0, 1), Due.BAD);
        Due.is("none wait", x.count(9), 0);
        x.keep();
        Due.is("no wagons", told(x, 1, 99, 10000), 0);
        Due.is("none wait", x.count(9), 0);
        Due.is("wrong", told(x, 1, 99, 5), 2);
        Due.is("none wait", x.count(9), 0);
    }

    private static void checkNearTheEnd() {
        WolfFires x = new WolfFires();
        for (int k = 0; k < 34; k++) {
            x.hours(k == 33 ? 98 : 300);
        }
        Due.is("the hour", x.count(6), 9998);
        x.keep();
        Due.is("one hour is left", told(x, 5, 99, 10000), 0);
        Due.is("one hour is left", told(x, 5, 99, 10000, 99, 10000), 3);
        x.hours(1);
        Due.is("by the image", told(x, 5, 99, 10000), 0);
        x.keep();
        Due.is("no hour is left", told(x, 5), 0);
        Due.is("no hour is left", told(x, 5, 99), 1);
    }

    private static void images() {
        WolfFires x = Due.ring(9, 8);
        Due.is("no image", x.back(), Due.NO);
        x.deal(2);
        x.set(0, 4, 1);
        x.lays(0, 1, 3);
        x.lays(1, 2, 4);
        x.hours(7);
        Due.text(x, "light f*3");
        long was = print(x);
        Due.is("keep", x.keep(), 2);
        for (int again = 0; again < 2; again++) {
            x.wagon(5);
            x.lays(0, 0, 77);
            x.lays(0, 1, 7);
            x.lays(1, 2, 9);
            x.plain(0, 5000);
            x.plain(1, 50);
            x.plain(2, 51);
            x.deal(4);
            x.turns(0, (x.told(0, 0) + 1) % 6);
            x.set(0, 1, (x.told(0, 1) + 1) % 12);
            x.set(0, 2, x.told(0, 2) % 9 + 1);
            x.set(0, 3, 500);
            x.set(0, 4, 0);
            x.hours(9);
            Due.text(x, "light 70");
            Due.text(x, "fear 70");
            Due.text(x, "tire 70");
            Due.holds("it is otherwise", print(x) != was);
            Due.is("back", x.back(), 2);
            Due.is("all is as it was", print(x), was);
        }
        x.wagon(1);
        Due.is("keep", x.keep(), 3);
        x.hours(1);
        Due.is("the last image", x.back(), 3);
    }

    private static void imageLeavesOut() {
        WolfFires x = new WolfFires();
        x.watcher(0, 0, 4);
        x.keep();
        x.sheet(0, 0, 2);
        x.lay(0, 3, 7);
        x.lay(1, 1, 0);
        x.tell(5);
        x.feed(1, 2, 3);
        x.turns(0, 5);
        x.back();
        Due.is("sheets stay", x.mark(0, 1, 1), 1);
        Due.is("slots stay", x.rest(0, 4), 3);
        Due.is("slots stay", x.ask(1, 0), 4);
        Due.is("numbers wait", x.count(9), 1);
        Due.is("the tape stays", x.count(10), 12);
    }

    /** What comes behind back() is new, whatever stood in its place. */
    private static void newOnesBehindBack() {
        WolfFires x = Due.ring(5);
        x.watcher(0, 0, 4);
        x.set(0, 4, 1);
        x.keep();
        for (int again = 0; again < 2; again++) {
            Due.is("wagon", x.wagon(50), 1);
            Due.is("fire", x.at(1, 1), 0);
            Due.is("tried", x.at(1, 2), 0);
            x.lays(1, 1, 6);
            x.lays(1, 2, 7);
            Due.is("watcher", x.watcher(2, 1, 4), 1);
            Due.is("tired", x.told(1, 3), 0);
            Due.is("on", x.told(1, 4), 0);
            x.set(1, 3, 8);
            x.set(1, 4, 1);
            Due.is("who are on", x.count(2), 2);
            x.back();
            Due.is("foals of all", x.count(7), 5);
            Due.is("who are on", x.count(2), 1);
            Due.is("light", x.at(0, 3), 0);
            Due.is("dark", x.dark(1), 1);
        }
    }

    private static void imagesOfTexts() {
        WolfFires x = Due.ring(0);
        Due.text(x, "light 11");
        x.keep();
        Due.text(x, "light 22");
        x.back();
        Due.is("light", x.at(0, 3), 11);
        Due.is("why", x.why(0), 0);
        Due.is("a text in the place of the other", Due.text(x, "fear 33"), 1);
        Due.is("light", x.at(0, 3), 11);
        Due.is("fear", x.at(0, 5), 33);
        x.back();
        Due.is("no fear", x.why(1), Due.NONE);
        Due.is("fear", x.at(0, 5), 11);
        Due.is("a faulty one", Due.text(x, "light 7 7"), -108);
        Due.is("light", x.at(0, 3), 11);
    }

    private static void count() {
        WolfFires x = Due.ring(3, 4, 5);
        x.watcher(0, 0, 1);
        x.watcher(0, 0, 1);
        x.set(1, 4, 1);
        x.plain(0, 77);
        x.plain(1, 0);
        x.plain(2, 9);
        x.hours(6);
        Due.text(x, "light 1");
        x.tell(1);
        x.tell(1);
        x.tell(1);
        x.feed(0, 0, 0);
        x.seed(-9);
        int[] due = {3, 2, 1, 77, 0, 9, 6, 12, 1, 3, 12, -9};
        for (int k = 0; k < due.length; k++) {
            Due.is("count(" + k + ")", x.count(k), due[k]);
        }
        Due.is("count(-1)", x.count(-1), Due.BAD);
        Due.is("count(12)", x.count(12), Due.BAD);
    }

    /** A number for all that an image keeps. */
    private static long print(WolfFires x) {
        long sum = 0;
        for (int k = 0; k < 12; k++) {
            sum = sum * 31 + x.count(k);
        }
        for (int k = 0; k < 4; k++) {
            sum = sum * 31 + x.night(k);
        }
        for (int k = 0; k < x.count(0); k++) {
            for (int what = 0; what < 6; what++) {
                sum = sum * 31 + x.at(k, what);
            }
        }
        for (int k = 0; k < x.count(1); k++) {
            for (int what = 0; what < 7; what++) {
                sum = sum * 31 + x.told(k, what);
            }
        }
        for (int k = 0; k < 3; k++) {
            sum = sum * 31 + x.why(k);
        }
        return sum;
    }
}
