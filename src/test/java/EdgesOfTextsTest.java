/** Terms, part 4, and promises 24 to 28: the edges of the tape and of texts, a sentence of the document ahead of its calls. */
public final class EdgesOfTextsTest {
    public static void main(String[] args) {
        fourteenTexts();
        theTape();
        usedUp();
        keys();
        loosestFirst();
        oneTest();
        numbers();
        names();
        words();
        otherBytes();
        blanks();
        blankNeeded();
        ninthParen();
        ninthNot();
        theEnd();
        firstFault();
        behindAFault();
        wraps();
        byNought();
        truth();
        toldLast();
        bytesOfNumbers();
        trims();
        howMany();
        Edge.ends("EdgesOfTextsTest");
    }

    private static void reads(String text) {
        Edge.is("'" + text + "'", new Script().answer("'" + text + "'"), 0);
    }

    private static void fault(String text, int place) {
        Edge.is("'" + text + "'", new Script().answer("'" + text + "'"), -100 - place);
    }

    /** Light of a wagon alone, fire 3 and wood 7, by a text. */
    private static void gives(String text, int light) {
        Edge.wagons(1).on("lays(0, 1, 3); plain(0, 7); 'light " + text + "' = 0; at(0, 3) = " + light);
    }

    private static String times(String part, int many) {
        return part.repeat(many);
    }

    private static void fourteenTexts() {
        Edge.says("TEXTS, 14 at most, numbered from 0");
        Script s = Edge.wagons(1).on("textTold(0, 0) = BAD");
        for (int k = 0; k < 14; k++) {
            s.on("count(8) = " + k, "textTold(" + k + ", 0) = BAD", "'light " + k + "' = " + k, "textTold(" + k + ", 0) = 0; at(0, 3) = " + k);
        }
        s.on("'light 50' = FULL; count(8) = 14; at(0, 3) = 13; why(0) = 13; textTold(13, 0) = 0; textTold(14, 0) = BAD; textTold(-1, 0) = BAD");
        s.on("'fear 50' = FULL; why(1) = NONE; 'tire 50' = FULL; why(2) = NONE; count(8) = 14; at(0, 5) = 13");

        Edge.says("-100 less the place of its FAULT; FULL.");
        s.on("'light 50 50' = -109; '' = -100; 'light' = -105; 'light 1' = FULL; count(8) = 14; at(0, 3) = 13; textTold(13, 1) = 1");
        fault("", 0);
        fault(times(" ", 96), 96);
        fault("light " + times("(", 8) + times("f+", 41), 96);
    }

    private static void theTape() {
        Edge.says("THE TAPE (96 bytes at most");
        Script s = new Script();
        for (int k = 1; k <= 8; k++) {
            s.on("feed(0, 0, 0) = " + 12 * k);
        }
        s.on("feed(0, 0, 0) = FULL; count(10) = 96; trim(96) = 96; feed(0, 0, 0) = FULL; trim(95) = 95; feed(0, 0, 0) = FULL; count(10) = 95",
            "trim(85) = 85; feed(0, 0, 0) = FULL; count(10) = 85; trim(84) = 84; feed(0, 0, 0) = 96; feed(0, 0, 0) = FULL; trim(83) = 83; feed(0, 0, 0) = 95");
        Edge.says("FULL: it would have more than 96.");
        Edge.wagons(1).on("count(10) = 0").on("'light " + times("1+", 44) + "51' = 0; at(0, 3) = 95; textTold(0, 1) = 45");
    }

    private static void usedUp() {
        Edge.says("an act that reads it uses it up, whatever it answers");
        // "ligh" "t 7 " and blanks.
        Edge.fresh("feed(0, 0, 0) = 12; text() = -100; count(10) = 0; text() = -100; count(10) = 0");
        Edge.fresh("feed(1818847080, 1948268320, 538976288) = 12; text() = 0; count(10) = 0; text() = -100; count(8) = 1; trim(0) = 0; trim(1) = BAD");
        Script s = new Script();
        for (int k = 0; k < 14; k++) {
            s.on("'fear 1' = " + k);
        }
        s.on("feed(1818847080, 1948268320, 538976288) = 12; text() = FULL; count(10) = 0; text() = -100");
        // What else there is leaves the tape as it is.
        Edge.fresh("feed(1818847080, 1948268320, 538976288) = 12; hours(1); keep(); back(); check(1); lasts(); why(0); count(10) = 12; text() = 0");
    }

    private static void keys() {
        Edge.says("KEY: light | fear | tire");
        Edge.fresh("'light 1' = 0; 'fear 1' = 1; 'tire 1' = 2; textTold(0, 0) = 0; textTold(1, 0) = 1; textTold(2, 0) = 2");
        for (String key : new String[] {"ligh", "lights", "lightf", "fea", "fears", "tir", "tires", "l", "f", "Light", "FEAR", "night", "bear", "wire", "1", "(", "!", "lighu"}) {
            fault(key + " 1", 0);
            fault("  " + key + " 1", 2);
        }
        fault("light light 1", 6);
        fault("fear tire", 5);
    }

    private static void loosestFirst() {
        Edge.says("E, the loosest first: OR: AND { | AND }; AND: TEST { & TEST }; TEST: SUM [ (< | = | >) SUM ]; SUM: TERM { (+ | -) TERM }; TERM: PIECE { (* | /) PIECE }");
        gives("1|0&0", 1);
        gives("0&0|1", 1);
        gives("1|1&0", 1);
        gives("0&1=0", 0);
        gives("2&1=1", 1);
        gives("5=2+3", 1);
        gives("2+3=5", 1);
        gives("9<2+3", 0);
        gives("1+2*3", 7);
        gives("2*3+1", 7);
        gives("20-2*3-4", 10);
        gives("20-5-3", 12);
        gives("64/4/2", 8);
        gives("64/4*2", 32);
        gives("5*7/4", 8);
        gives("!0+5", 6);
        gives("!3*7", 0);
        gives("!0*7", 7);
        gives("!(0*7)", 1);
        gives("!0=1", 1);
        gives("(1|0)&0", 0);
        gives("(1+2)*3", 9);
        for (String sign : "| & < = > + - * /".split(" ")) {
            fault("light " + sign + "f", 6);
            fault("light f" + sign, 8);
            fault("light f" + sign + sign + "f", 8);
            fault("light f" + sign + ")", 8);
            fault("light (f" + sign + ")", 9);
            fault("light !" + sign + "f", 7);
            reads("light f" + sign + "f");
            reads("light f" + sign + "!f");
            reads("light f" + sign + "(f)");
        }
    }

    private static void oneTest() {
        Edge.says("TEST: SUM [ (< | = | >) SUM ]");
        for (String one : "< = >".split(" ")) {
            for (String two : "< = >".split(" ")) {
                fault("light f" + one + "n" + two + "w", 9);
                fault("light f" + one + "n+1*2" + two + "w", 13);
                fault("light (f" + one + "n" + two + "w)", 10);
                reads("light (f" + one + "n)" + two + "w");
                reads("light f" + one + "(n" + two + "w)");
                reads("light f" + one + "n&n" + two + "w");
                reads("light f" + one + "n|n" + two + "w");
                reads("light f" + one + "n&!(n" + two + "w)");
                fault("light f" + one + "n&n" + two + "w" + one + "1", 13);
                fault("light f" + one + "(n" + two + "w)" + one + "1", 13);
            }
        }
    }

    private static void numbers() {
        Edge.says("NUMBER (1 to 4 digits)");
        gives("7", 7);
        gives("0", 0);
        gives("0000", 0);
        gives("0099", 99);
        gives("9999/101", 99);
        gives("9999-9940", 59);
        fault("light 00000", 6);
        fault("light 12345", 6);
        fault("light f+12345", 8);
        fault("light f+99999999999999", 8);
        fault("light (10000", 7);
        Edge.says("a NUMBER of more than 4 digits");
        fault("light 10000+(", 6);
        fault("light !00001", 7);
    }

    private static void names() {
        Edge.says("NAMES, each one letter: of light f its FIRE, n NEXT FIRES, w WOOD; of fear g GUARD, t TRIED, h HUNGER; of tire t TIRED, e EYES");
        String[] keys = {"light", "fear", "tire"};
        String[] names = {"fnw", "gth", "te"};
        for (int key = 0; key < 3; key++) {
            for (char c = 'a'; c <= 'z'; c++) {
                String text = keys[key] + " " + c;
                if (names[key].indexOf(c) >= 0) {
                    reads(text);
                    fault(text + c, keys[key].length() + 1);
                } else {
                    fault(text, keys[key].length() + 1);
                }
            }
        }
        Edge.wagons(2).on("lays(0, 1, 3); lays(1, 1, 4); plain(0, 7); 'light f'; at(0, 3) = 3; 'light n'; at(0, 3) = 4; 'light w'; at(0, 3) = 7",
            "lays(0, 2, 5); plain(2, 6); 'fear g'; at(0, 5) = 7; 'fear t'; at(0, 5) = 5; 'fear h'; at(0, 5) = 6",
            "watcher(0, 0, 9) = 0; set(0, 4, 1); set(0, 3, 11); 'tire t'; hours(1); told(0, 3) = 22; 'tire e'; hours(1); told(0, 3) = 31");
    }

    private static void words() {
        Edge.says("A word is a row of letters a .. z, or of digits, as long as it goes; any other byte is a sign by itself");
        fault("light ff", 6);
        fault("light fn+1", 6);
        fault("light f1", 7);
        fault("light 1f", 7);
        fault("light az", 6);
        fault("lighta f", 0);
        fault("lightz f", 0);
        fault("light fa", 6);
        fault("light fz", 6);
        fault("light f a", 8);
        fault("light f`", 7);
        fault("light f{", 7);
        fault("light`f", 5);
        fault("light{f", 5);
        fault("light 0a", 7);
        fault("light 9z", 7);
        gives("1909/50", 38);
        fault("light f+zz", 8);
        fault("light 09:", 8);
        fault("light 09/", 9);
        reads("light(f)");
        reads("light!f");
        reads("light(1)");
        fault("light|1", 5);
        fault("light)", 5);
        reads("light!(!(!0))*(f)/(n)-(!w)");
    }

    private static void otherBytes() {
        Edge.says("any other byte is a sign by itself");
        String signs = "()!|&<=>+-*/";
        for (int b = 0; b < 256; b++) {
            boolean letter = b >= 'a' && b <= 'z';
            boolean digit = b >= '0' && b <= '9';
            char c = (char) b;
            if (!letter && !digit && b != ' ' && b != '\'' && signs.indexOf(c) < 0) {
                fault(c + "light 1", 0);
                fault("light " + c, 6);
                fault("light f" + c, 7);
                fault("light" + c + "f", 5);
                fault("light f+" + c + "f", 8);
            }
        }
        // "light '", which a script can't quote.
        Script quote = Edge.fresh("feed(1818847080, 1948264224, 538976288) = 12; trim(7) = 7; text() = -106");
        quote.on("count(8) = 0");
    }

    private static void blanks() {
        Edge.says("Between words and signs, and at the ends, there may be blanks (byte 32)");
        reads("light f");
        reads(" light f ");
        reads("   light   f   +   n   *   (   !   w   )   ");
        reads("light f" + times(" ", 89));
        reads(times(" ", 89) + "light f");
        fault(times(" ", 90) + "light ", 96);
        fault("light" + times(" ", 91), 96);
        fault("li ght f", 0);
        fault("light 1 2", 8);
        fault("light f f", 8);
        fault("light ! ", 8);
        reads("light !  !  f");
        fault("light 1 0000", 8);
        for (int other : new int[] {0, 9, 10, 13, 31, 33 + 2, 127, 160, 255}) {
            fault("light" + (char) other + "f", 5);
            fault("light f" + (char) other, 7);
        }
    }

    private static void blankNeeded() {
        Edge.says("a word right behind another one needs one");
        fault("light1", 5);
        fault("fear1", 4);
        fault("tire9999", 4);
        fault("  light1", 7);
        reads("light 1");
        reads("fear 1");
        Edge.says("(a word that needs a blank ahead of it");
        fault("light12345", 5);
        fault("light1+", 5);
        fault("light f+1n", 9);
        fault("light f+n1", 9);
    }

    private static void ninthParen() {
        Edge.says("the ninth ( that would be open within others");
        for (int many = 1; many <= 8; many++) {
            reads("light " + times("(", many) + "f" + times(")", many));
            fault("light " + times("(", many) + "f", 7 + many);
            fault("light " + times("(", many) + "f" + times(")", many + 1), 7 + 2 * many);
        }
        fault("light " + times("(", 9) + "f" + times(")", 9), 14);
        fault("light " + times("(", 9), 14);
        fault("light " + times("(", 20), 14);
        reads("light " + times("(", 8) + "f" + times(")", 8) + "+" + times("(", 8) + "f" + times(")", 8));
        fault("light " + times("(", 8) + "f" + times(")", 8) + "+" + times("(", 9) + "f" + times(")", 9), 32);
        reads("light " + times("(", 8) + "f" + ")" + "+(f)" + times(")", 7));
        fault("light " + times("(", 8) + "f" + "+(f)" + times(")", 8), 16);
        reads("light " + times("(f)+", 21) + "f");
        fault("light )", 6);
        fault("light ()", 7);
    }

    private static void ninthNot() {
        Edge.says("the ninth ! likewise, each by itself");
        for (int many = 1; many <= 8; many++) {
            reads("light " + times("!", many) + "f");
            gives(times("!", many) + "0", many % 2);
            fault("light " + times("!", many), 6 + many);
        }
        fault("light " + times("!", 9) + "f", 14);
        fault("light " + times("!", 9), 14);
        reads("light " + times("!", 8) + "f+" + times("!", 8) + "f");
        fault("light " + times("!", 8) + "f+" + times("!", 9) + "f", 24);
        reads("light " + times("!", 8) + times("(", 8) + "f" + times(")", 8));
        reads("light " + times("!(", 8) + "f" + times(")", 8));
        fault("light " + times("!(", 8) + "!f" + times(")", 8), 22);
        fault("light " + times("!(", 8) + "(f" + times(")", 9), 22);
        reads("light " + times("!(", 8) + "f" + times(")", 8) + "+" + times("!(", 8) + "f" + times(")", 8));
        fault("light " + times("!", 8) + "(f+!n)", 17);
        reads("light " + times("!", 7) + "(f+!n)");
        reads("light " + times("!", 7) + "(f+!n*!n)");
        fault("light " + times("!", 7) + "(f+!!n)", 17);
        reads("light " + times("!", 8) + "(f)+!n");
        reads("light " + times("!f+", 29) + "!f");
    }

    private static void theEnd() {
        Edge.says("the end (the place behind the last byte), if it comes too soon");
        String[] open = {"", " ", "light", "fear  ", "light (", "light !", "light f+", "light f + ", "light (f", "light (f ", "light ((f)", "tire e-", "fear g<"};
        for (String text : open) {
            fault(text, text.length());
        }
        String full = "light " + times("f+", 45);
        fault(full, 96);
        reads(full.substring(0, 95));
        fault(full.substring(0, 94), 94);
        // A fault of its own comes ahead of the end.
        fault("light (f))", 9);
        fault("light (7 7", 9);
    }

    private static void firstFault() {
        Edge.says("FAULT: the first byte of the first word or sign with which no TEXT goes on");
        fault("light g+zz+", 6);
        fault("light f++77777", 8);
        fault("light   abc", 8);
        fault("light f   77777", 10);
        fault("   fire 1", 3);
        fault("light f(n)", 7);
        fault("light (f)(n)", 9);
        fault("light f!n", 7);
        fault("light (f)!n", 9);
        fault("light f<=n", 8);
        fault("light f-", 8);
        fault("light -1", 6);
        fault("light --1", 6);
        fault("light f#", 7);
    }

    private static void behindAFault() {
        Edge.says("-100 less the place of its FAULT");
        // What a faulty text left open, or had read already, is nothing to the next one.
        String[][] faults = {{"light ((((((((", "14"}, {"light !!!!!!!!", "14"}, {"light f<", "8"}, {"light f<n<", "9"}, {"light 7+5*(w-", "13"},
            {"light 9 9", "8"}, {"light !f 9", "9"}, {"light !!f+!n 9", "13"}, {"light 1+2+3+4+5 6", "16"}, {"light (f))", "9"}, {"light !(!(!(f", "13"}, {"fear g+t-h n", "11"}, {"tire t*e*(", "10"}};
        for (String[] one : faults) {
            String bad = "'" + one[0] + "' = " + (-100 - Integer.parseInt(one[1]));
            Edge.wagons(1).on("lays(0, 1, 3)", bad, "'light !((((((((f))))))))+8' = 0; at(0, 3) = 8; textTold(0, 0) = 0; textTold(0, 1) = 2; why(0) = 0; why(1) = NONE");
            Edge.wagons(1).on("lays(0, 1, 3)", bad, "'light !!!!!!!!f*5+(f<4)' = 0; at(0, 3) = 6; textTold(0, 1) = 4");
            Edge.wagons(1).on("lays(0, 1, 3)", bad, bad, "'light f' = 0; at(0, 3) = 3; textTold(0, 1) = 1; count(8) = 1", bad, "at(0, 3) = 3; count(8) = 1; 'light 7' = 1; at(0, 3) = 7");
            Edge.wagons(1).on("lays(0, 1, 3)", bad, "'light f)' = -107; 'light f<3' = 0; at(0, 3) = 0");
        }
        // A text that back() took away is nothing to the one that takes its number.
        Edge.wagons(1).on("keep(); 'light 1+2+3+4' = 0; at(0, 3) = 10; back() = 1; at(0, 3) = 0; 'light 5' = 0; at(0, 3) = 5; textTold(0, 1) = 1");
    }

    private static void wraps() {
        Edge.says("Ints wrap");
        String least = "2*1024*1024*1024";
        gives(least + "<0", 1);
        gives(least + "-1>0", 1);
        gives(least + "-1+1<0", 1);
        gives(least + "+" + least, 0);
        gives("0-" + least + "=" + least, 1);
        gives(least + "*(0-1)=" + least, 1);
        gives(least + "/(0-1)=" + least, 1);
        gives(least + "<" + least + "-1", 1);
        gives("0-1<" + least + "-1", 1);
        gives(least + ">1", 0);
        gives("1>" + least, 1);
        gives("1<" + least, 0);
        gives("1024*1024*1024*4=0", 1);
        gives("9999*9999*9999/8000/8000+50", 9999 * 9999 * 9999 / 8000 / 8000 + 50);
        gives("!(1024*1024*1024*4)", 1);
        gives("!(" + least + ")", 0);
        gives(least + "&1", 1);
        gives(least + "|0", 1);
    }

    private static void byNought() {
        Edge.says("/ is 0 by 0");
        gives("5+9/0", 5);
        gives("5+9/(f-3)", 5);
        gives("5+0/0", 5);
        gives("5+9/0*7", 5);
        gives("5+9/n/n", 5);
        Edge.says("/ cuts towards 0");
        gives("50+7/2", 53);
        gives("50+(0-7)/2", 47);
        gives("50+7/(0-2)", 47);
        gives("50+(0-7)/(0-2)", 53);
        gives("50+(0-1)/2", 50);
        gives("50+1/(0-2)", 50);
    }

    private static void truth() {
        Edge.says("tests, & | ! give 1 or 0 (what is not 0 is true; both sides are worked out)");
        gives("(0&0)+(0&7)*2+(7&0)*4+(7&9)*8", 8);
        gives("(0|0)+(0|7)*2+(7|0)*4+(7|9)*8", 14);
        gives("!0+!1*2+!7*4+!(0-1)*8", 1);
        gives("(0-1)&(0-1)", 1);
        gives("(0-1)|0", 1);
        gives("4&2", 1);
        gives("4|2", 1);
        gives("0&9/0", 0);
        gives("1|9/0", 1);
        gives("(2<3)+(3<3)*2+(4<3)*4", 1);
        gives("(2=3)+(3=3)*2+(4=3)*4", 2);
        gives("(2>3)+(3>3)*2+(4>3)*4", 4);
    }

    private static void toldLast() {
        Edge.says("Of a KEY that TEXT counts that was told last");
        Edge.wagons(1).on("why(0) = NONE; why(1) = NONE; why(2) = NONE; 'light 5' = 0; why(0) = 0; why(1) = NONE; at(0, 3) = 5",
            "'fear 6' = 1; why(0) = 0; why(1) = 1; why(2) = NONE; 'light 7' = 2; why(0) = 2; at(0, 3) = 7; at(0, 5) = 6",
            "'tire 8' = 3; why(2) = 3; 'light 9 9' = -108; why(0) = 2; at(0, 3) = 7; why(-1) = BAD; why(3) = BAD");
    }

    private static void bytesOfNumbers() {
        Edge.says("Twelve bytes come to THE TAPE, the highest of each number first: how many it has");
        // "ligh" "t 7+" "5*9 "
        Edge.wagons(1).on("feed(1818847080, 1948268331, 891959584) = 12; text() = 0; at(0, 3) = 52");
        Edge.fresh("feed(LEAST, MOST, -1) = 12; feed(0, 0, 0) = 24; text() = -100");
        // A byte above 127 is a sign like others: here it stands behind a name, and then first of all.
        Script s = Edge.fresh("feed(1818847080, 1948280575, -1) = 12; text() = -107; feed(-1, 0, 0) = 12; text() = -100");
        s.type("light f");
        s.on("count(10) = 7; feed(539828272, 538976288, 538976288) = 19; text() = 0; textTold(0, 1) = 2");
    }

    private static void trims() {
        Edge.says("THE TAPE keeps its first n bytes: n");
        Edge.fresh("trim(0) = 0; trim(1) = BAD; trim(-1) = BAD; feed(1818847080, 1948268331, 891959584) = 12; trim(13) = BAD; trim(-1) = BAD; count(10) = 12",
            "trim(12) = 12; trim(8) = 8; trim(9) = BAD; text() = -108; trim(0) = 0");
        Edge.fresh("feed(1818847080, 1948268331, 891959584); trim(7) = 7; text() = 0; textTold(0, 1) = 1; feed(1818847080, 1948268331, 891959584); trim(0) = 0; text() = -100");
    }

    private static void howMany() {
        Edge.says("1 how many NUMBERS and NAMES it has");
        Edge.fresh("'light 0' = 0; 'light f+f+1' = 1; 'fear !(!g)' = 2; 'tire " + times("t+", 44) + "t' = 3",
            "textTold(0, 1) = 1; textTold(1, 1) = 3; textTold(2, 1) = 1; textTold(3, 1) = 45; textTold(0, 2) = BAD; textTold(0, -1) = BAD; textTold(4, 1) = BAD; textTold(3, 0) = 2");
    }
}
