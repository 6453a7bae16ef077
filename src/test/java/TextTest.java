/** Promises 24 to 28: feed, trim, text, textTold, why. */
public final class TextTest {
    public static void main(String[] args) {
        feedAndTrim();
        goodTexts();
        faults();
        nesting();
        behindAFault();
        worked();
        full();
        textTold();
        why();
        Due.ends("TextTest");
    }

    private static void feedAndTrim() {
        WolfFires x = new WolfFires();
        for (int k = 1; k <= 8; k++) {
            Due.is("feed", x.feed(-1, 0, Integer.MIN_VALUE), 12 * k);
        }
        Due.is("feed of 97 and more", x.feed(0, 0, 0), Due.FULL);
        Due.is("count(10)", x.count(10), 96);
        Due.is("trim(97)", x.trim(97), Due.BAD);
        Due.is("trim(-1)", x.trim(-1), Due.BAD);
        Due.is("trim(96)", x.trim(96), 96);
        Due.is("trim(85)", x.trim(85), 85);
        Due.is("feed of 97", x.feed(0, 0, 0), Due.FULL);
        Due.is("trim(84)", x.trim(84), 84);
        Due.is("feed of 96", x.feed(0, 0, 0), 96);
        Due.is("trim(0)", x.trim(0), 0);
        Due.is("trim(1)", x.trim(1), Due.BAD);
        // "ligh" "t 7+" "5   ": the highest byte of each number first.
        Due.is("feed", x.feed(0x6c696768, 0x7420372b, 0x35202020), 12);
        Due.is("text", x.text(), 0);
        x.wagon(0);
        Due.is("it counts", x.at(0, 3), 12);
        Due.is("the tape is used up", x.count(10), 0);
        Due.type(x, "light (");
        Due.is("a fault", x.text(), -107);
        Due.is("the tape is used up", x.count(10), 0);
    }

    private static void goodTexts() {
        String[] good = {"light f", "light(f)", "  light   f  ", "fear g", "tire e", "light 0", "light 9999",
            "light f+n-w*f/n", "light f<n", "light f=n&n>w|!f", "light!f", "light ! ! f", "fear(g+t)*(h)", "light f<(n<w)",
            "light f<n&n<w", "light 0001", "tire t", "fear t", "light !f<n", "light!(!f)"};
        for (String text : good) {
            Due.is(text, Due.text(new WolfFires(), text), 0);
        }
    }

    private static void faults() {
        Object[][] bad = {
            {"", 0}, {"   ", 3}, {"light", 5}, {"light  ", 7}, {"lights f", 0}, {" lamp f", 1}, {"f", 0}, {"7", 0}, {"+", 0},
            {"Light f", 0}, {"light7", 5}, {"lightf", 0}, {"light 77777", 6}, {"light 12345+", 6}, {"light g", 6},
            {"fear f", 5}, {"fear n", 5}, {"tire g", 5}, {"tire h", 5}, {"light t", 6}, {"light ff", 6}, {"light f f", 8},
            {"light f7", 7}, {"light 7f", 7}, {"light f 7", 8}, {"light +f", 6}, {"light f+", 8}, {"light f+ ", 9},
            {"light f++n", 8}, {"light f<n<w", 9}, {"light f<n+f=w", 11}, {"light f=n=w", 9}, {"light f<n&f<n>w", 13},
            {"light (f", 8}, {"light f)", 7}, {"light ()", 7}, {"light (f))", 9}, {"light (f<n<w)", 10}, {"light f!n", 7},
            {"light f(n)", 7}, {"light (f)n", 9}, {"light (f)(n)", 9}, {"light f!", 7}, {"light !", 7}, {"light !+", 7},
            {"light f\tn", 7}, {"light\tf", 5}, {"light F", 6}, {"light f<=n", 8}, {"light f&&n", 8}, {"light light", 6},
            {"light f\u0000", 7}, {"light \u00e9", 6}, {"light -1", 6}, {"light f%n", 7}, {"light a", 6}, {"light 1 2", 8},
            {"fear! 5 5", 8}, {"tire 1 & | 2", 9},
            {"night f", 0}, {"bear g", 0}, {"wire t", 0}, {"lighz f", 0}, {"light fz", 6}, {"light za", 6}, {"light fa", 6},
            {"light 9a", 7}, {"light 0:", 7}, {"light f/n/", 10}, {"light `", 6}, {"light {", 6},
        };
        for (Object[] b : bad) {
            Due.is((String) b[0], Due.text(new WolfFires(), (String) b[0]), -100 - (Integer) b[1]);
        }
    }

    private static void nesting() {
        Due.is("eight ( open", Due.text(new WolfFires(), "light ((((((((f))))))))"), 0);
        Due.is("the ninth (", Due.text(new WolfFires(), "light (((((((((f)))))))))"), -114);
        Due.is("eight ( again", Due.text(new WolfFires(), "light ((((((((f))))))))+((((((((n))))))))"), 0);
        Due.is("eight !", Due.text(new WolfFires(), "light !!!!!!!!f"), 0);
        Due.is("the ninth !", Due.text(new WolfFires(), "light !!!!!!!!!f"), -114);
        Due.is("nine !, not within", Due.text(new WolfFires(), "light !f+!f+!f+!f+!f+!f+!f+!f+!f"), 0);
        Due.is("eight ! again", Due.text(new WolfFires(), "light !!!!!!!!f+!!!!!!!!f"), 0);
        Due.is("each by itself", Due.text(new WolfFires(), "light !(!(!(!(!(!(!(!(f))))))))"), 0);
        Due.is("the ninth ! across (", Due.text(new WolfFires(), "light !!!!!!!!(f+!n)"), -117);
        Due.is("the ninth ( across !", Due.text(new WolfFires(), "light ((((((((f+!(n)))))))))"), -117);
        StringBuilder long96 = new StringBuilder("light f");
        while (long96.length() + 2 <= 96) {
            long96.append("+1");
        }
        Due.is("a long text", Due.text(new WolfFires(), long96.toString()), 0);
        Due.is("96 bytes, end too soon", Due.text(new WolfFires(), long96 + "+"), -196);
    }

    /** What a faulty text left open is nothing to the next one. */
    private static void behindAFault() {
        WolfFires x = Due.ring(0, 0);
        x.lays(1, 1, 4);
        Due.is("eight ( open", Due.text(x, "light (((((((("), -114);
        Due.is("eight ! open", Due.text(x, "light !!!!!!!!"), -114);
        Due.is("a test open", Due.text(x, "light f<"), -108);
        Due.is("a test", Due.text(x, "light f<n+"), -110);
        Due.is("a test", Due.text(x, "fear t=n"), -107);
        Due.is("a sum open", Due.text(x, "light 7+5*(n-"), -113);
        Due.is("a text", Due.text(x, "light !(((((((n)))))))*5+9"), 0);
        Due.is("light", x.at(0, 3), 9);
        Due.is("its numbers and names", x.textTold(0, 1), 3);
        Due.is("one ) too many", Due.text(x, "light f)"), -107);
        Due.is("a text", Due.text(x, "light !!!!!!!!n"), 1);
        Due.is("light", x.at(0, 3), 1);
        Due.is("0 is a number", Due.text(x, "light 0"), 2);
        Due.is("light", x.at(0, 3), 0);
        Due.is("a test open", Due.text(x, "light f<"), -108);
        Due.is("a test", Due.text(x, "light f<n"), 3);
        Due.is("light", x.at(0, 3), 1);
    }

    /** Light of one wagon with fire 3 and wood 7, by a text. */
    private static int light(String text) {
        WolfFires x = Due.ring(0);
        x.lays(0, 1, 3);
        x.plain(0, 7);
        Due.is(text, Due.text(x, text), 0);
        return x.at(0, 3);
    }

    private static void worked() {
        Due.is("sum", light("light 1+2*3"), 7);
        Due.is("from the left", light("light 20-5-3"), 12);
        Due.is("from the left", light("light 20/5*3"), 12);
        Due.is("from the left", light("light 2*20/3"), 13);
        Due.is("cut towards 0", light("light 50+(0-7)/2"), 47);
        Due.is("by 0", light("light 5+9/(f-3)"), 5);
        Due.is("names", light("light f*10+w-n"), 37);
        Due.is("less", light("light (2<3)+(3<3)*2+(4<3)*4"), 1);
        Due.is("as much", light("light (2=3)+(3=3)*2+(4=3)*4"), 2);
        Due.is("more", light("light (2>3)+(3>3)*2+(4>3)*4"), 4);
        Due.is("and", light("light (0&0)+(0&5)*2+(5&0)*4+(5&6)*8"), 8);
        Due.is("or", light("light (0|0)+(0|5)*2+(5|0)*4+(5|6)*8"), 14);
        Due.is("not", light("light !0+!5*2+!!5*4"), 5);
        Due.is("! ahead of a sum", light("light !0+5"), 6);
        Due.is("! ahead of (", light("light !(1-1)+5"), 6);
        Due.is("! ahead of ( on the right", light("light 20-!(f-3)*7"), 13);
        Due.is("( behind a sign", light("light 20-(9-(4-1))"), 14);
        Due.is("| is loosest", light("light 1|0&0"), 1);
        Due.is("& is tighter", light("light 0&0|1"), 1);
        Due.is("tests are tighter than &", light("light 5&0=0"), 1);
        Due.is("sums are tighter than tests", light("light 1+1=2"), 1);
        Due.is("tests on the right", light("light 2=1+1"), 1);
        Due.is("parens", light("light (1+2)*(3+4)"), 21);
        Due.is("ints wrap", light("light 9999*9999*9999/8000/8000+50"), 9999 * 9999 * 9999 / 8000 / 8000 + 50);
        Due.is("ints wrap below 0", light("light 2*1024*1024*1024<0"), 1);
        Due.is("the least int by -1", light("light 2*1024*1024*1024/(0-1)<0"), 1);
        WolfFires x = Due.ring(0);
        x.lays(0, 2, 6);
        x.plain(2, 50);
        Due.text(x, "light 3");
        Due.text(x, "fear h-g*10-t");
        Due.is("names of fear", x.at(0, 5), 14);
    }

    private static void full() {
        WolfFires x = Due.ring(0);
        for (int k = 0; k < 14; k++) {
            Due.is("text " + k, Due.text(x, "light " + k), k);
        }
        Due.is("text 15", Due.text(x, "light 50"), Due.FULL);
        Due.is("the tape is used up", x.count(10), 0);
        Due.is("FAULT stands ahead of FULL", Due.text(x, "light 50 50"), -109);
        Due.is("the last still counts", x.at(0, 3), 13);
        Due.is("why(0)", x.why(0), 13);
        Due.is("count(8)", x.count(8), 14);
    }

    private static void textTold() {
        WolfFires x = new WolfFires();
        Due.is("no text", x.textTold(0, 0), Due.BAD);
        Due.text(x, "light f");
        Due.text(x, "fear (g+t)*2-!h");
        Due.text(x, "tire t+1=e|0");
        int[][] due = {{0, 1}, {1, 4}, {2, 4}};
        for (int k = 0; k < 3; k++) {
            Due.is("key", x.textTold(k, 0), due[k][0]);
            Due.is("numbers and names", x.textTold(k, 1), due[k][1]);
        }
        Due.text(x, "fear 5 +");
        Due.is("textTold(3, 0)", x.textTold(3, 0), Due.BAD);
        Due.is("textTold(-1, 0)", x.textTold(-1, 0), Due.BAD);
        Due.is("textTold(0, 2)", x.textTold(0, 2), Due.BAD);
        Due.is("textTold(0, -1)", x.textTold(0, -1), Due.BAD);
        Due.is("textTold(14, 0)", x.textTold(14, 0), Due.BAD);
    }

    private static void why() {
        WolfFires x = new WolfFires();
        Due.is("why(-1)", x.why(-1), Due.BAD);
        Due.is("why(3)", x.why(3), Due.BAD);
        Due.text(x, "fear 1");
        Due.is("why(0)", x.why(0), Due.NONE);
        Due.is("why(1)", x.why(1), 0);
        Due.text(x, "tire 1");
        Due.text(x, "fear 2");
        Due.text(x, "fear 2 2");
        Due.is("told last", x.why(1), 2);
        Due.is("why(2)", x.why(2), 1);
    }
}
