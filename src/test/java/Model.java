import java.util.ArrayList;
import java.util.Arrays;
import java.util.List;

/**
 * The document once more, written for plainness alone and otherwise than the class: objects for wagons, real shorts
 * and floats, a tree for each text, read by descent; nothing is kept for later, all is copied whenever it is thought.
 */
final class Model {
    static final class Wagon {
        int foals;
        int fire;
        int tried;

        Wagon twin() {
            Wagon w = new Wagon();
            w.foals = foals;
            w.fire = fire;
            w.tried = tried;
            return w;
        }
    }

    static class Watcher {
        final int kind;
        int at;
        int eyes;
        int tired;
        boolean on;

        Watcher(int kind) {
            this.kind = kind;
        }

        int sees(int light, int foals) {
            return on ? Math.max(eyes - tired / 10, 0) + light / 4 : 0;
        }

        int worth() {
            return eyes;
        }

        static Watcher of(int kind, int at, int eyes, int tired, boolean on) {
            Watcher w = kind == 0 ? new Watcher(0) : kind == 1 ? new Old(1) : kind == 2 ? new Dog(2)
                : kind == 3 ? new Lame() : kind == 4 ? new Bitch() : new Boy();
            w.at = at;
            w.eyes = eyes;
            w.tired = tired;
            w.on = on;
            return w;
        }

        Watcher turned(int to) {
            return of(to, at, eyes, tired, on);
        }
    }

    static class Old extends Watcher {
        Old(int kind) {
            super(kind);
        }

        @Override
        int sees(int light, int foals) {
            return super.sees(light, foals) / 2;
        }

        @Override
        int worth() {
            return super.worth() + 4;
        }
    }

    static final class Lame extends Old {
        Lame() {
            super(3);
        }

        @Override
        int sees(int light, int foals) {
            return super.sees(light, foals) + (on ? 1 : 0);
        }

        @Override
        int worth() {
            return 2 * super.worth();
        }
    }

    static class Dog extends Watcher {
        Dog(int kind) {
            super(kind);
        }

        @Override
        int sees(int light, int foals) {
            return on ? eyes : 0;
        }

        @Override
        int worth() {
            return 20 - eyes;
        }
    }

    static final class Bitch extends Dog {
        Bitch() {
            super(4);
        }

        @Override
        int sees(int light, int foals) {
            return super.sees(light, foals) + (on && foals > 0 ? 3 : 0);
        }

        @Override
        int worth() {
            return super.worth() + 9;
        }
    }

    static final class Boy extends Watcher {
        Boy() {
            super(5);
        }

        @Override
        int sees(int light, int foals) {
            return tired > 5 ? 0 : super.sees(light, foals);
        }

        @Override
        int worth() {
            return 2;
        }
    }

    private static final List<Class<? extends Watcher>> KINDS =
        List.of(Watcher.class, Old.class, Dog.class, Lame.class, Bitch.class, Boy.class);

    /** A text as a tree. */
    static final class Node {
        final char sign;
        final int number;
        final Node left;
        final Node right;

        Node(char sign, int number, Node left, Node right) {
            this.sign = sign;
            this.number = number;
            this.left = left;
            this.right = right;
        }

        int leaves() {
            return left == null ? 1 : left.leaves() + (right == null ? 0 : right.leaves());
        }

        int value(String names, int... of) {
            if (sign == '#') {
                return number;
            }
            if (left == null) {
                return of[names.indexOf(sign)];
            }
            int a = left.value(names, of);
            if (sign == '!') {
                return a == 0 ? 1 : 0;
            }
            int b = right.value(names, of);
            return switch (sign) {
                case '|' -> a != 0 | b != 0 ? 1 : 0;
                case '&' -> a != 0 & b != 0 ? 1 : 0;
                case '<' -> a < b ? 1 : 0;
                case '=' -> a == b ? 1 : 0;
                case '>' -> a > b ? 1 : 0;
                case '+' -> a + b;
                case '-' -> a - b;
                case '*' -> a * b;
                default -> b == 0 ? 0 : a / b;
            };
        }
    }

    static final class Text {
        int key;
        Node tree;
    }

    static final class Fault extends RuntimeException {
        private static final long serialVersionUID = 1;
        final int place;

        Fault(int place) {
            super("fault", null, false, false);
            this.place = place;
        }
    }

    private static final List<String> KEYS = List.of("light", "fear", "tire");
    private static final List<String> NAMES = List.of("fnw", "gth", "te");

    /** Reads a text by descent, each rule of the document a method. */
    static final class Reader {
        final List<String> words = new ArrayList<>();
        final List<Integer> places = new ArrayList<>();
        int next = 0;
        int open = 0;
        int nots = 0;
        String names;

        Text read(String tape) {
            split(tape);
            Text text = new Text();
            text.key = KEYS.indexOf(word());
            if (text.key < 0) {
                throw new Fault(places.get(next));
            }
            next++;
            names = NAMES.get(text.key);
            String first = word();
            if (!first.isEmpty() && Character.isDigit(first.charAt(0)) && places.get(1) == places.get(0) + words.get(0).length()) {
                throw new Fault(places.get(1));
            }
            text.tree = or();
            if (!word().isEmpty()) {
                throw new Fault(places.get(next));
            }
            return text;
        }

        private void split(String tape) {
            java.util.regex.Matcher m = java.util.regex.Pattern.compile("[a-z]+|[0-9]+|[^ ]", java.util.regex.Pattern.DOTALL)
                .matcher(tape);
            while (m.find()) {
                words.add(m.group());
                places.add(m.start());
            }
            words.add("");
            places.add(tape.length());
        }

        private String word() {
            return words.get(next);
        }

        private boolean isOf(String signs) {
            return word().length() == 1 && signs.contains(word());
        }

        private char take() {
            return words.get(next++).charAt(0);
        }

        private Node or() {
            Node left = and();
            while (isOf("|")) {
                left = new Node(take(), 0, left, and());
            }
            return left;
        }

        private Node and() {
            Node left = test();
            while (isOf("&")) {
                left = new Node(take(), 0, left, test());
            }
            return left;
        }

        private Node test() {
            Node left = sum();
            return isOf("<=>") ? new Node(take(), 0, left, sum()) : left;
        }

        private Node sum() {
            Node left = term();
            while (isOf("+-")) {
                left = new Node(take(), 0, left, term());
            }
            return left;
        }

        private Node term() {
            Node left = piece();
            while (isOf("*/")) {
                left = new Node(take(), 0, left, piece());
            }
            return left;
        }

        private Node piece() {
            if (word().matches("[0-9]{1,4}")) {
                return new Node('#', Integer.parseInt(words.get(next++)), null, null);
            }
            if (isOf(names)) {
                return new Node(take(), 0, null, null);
            }
            if (isOf("!") && nots < 8) {
                nots++;
                Node not = new Node(take(), 0, piece(), null);
                nots--;
                return not;
            }
            if (isOf("(") && open < 8) {
                take();
                open++;
                Node inner = or();
                if (!isOf(")")) {
                    throw new Fault(places.get(next));
                }
                take();
                open--;
                return inner;
            }
            throw new Fault(places.get(next));
        }
    }

    /** All that an image keeps. */
    static final class State {
        List<Wagon> wagons = new ArrayList<>();
        List<Watcher> watchers = new ArrayList<>();
        List<Text> texts = new ArrayList<>();
        int wood = 100;
        int wolves = 3;
        int hunger = 5;
        int hour;
        int slept;
        int lost;
        int burnt;
        int z = 1;

        State twin() {
            State s = new State();
            wagons.forEach(w -> s.wagons.add(w.twin()));
            watchers.forEach(w -> s.watchers.add(w.turned(w.kind)));
            s.texts.addAll(texts);
            s.wood = wood;
            s.wolves = wolves;
            s.hunger = hunger;
            s.hour = hour;
            s.slept = slept;
            s.lost = lost;
            s.burnt = burnt;
            s.z = z;
            return s;
        }

        int textFor(int key) {
            for (int k = texts.size() - 1; k >= 0; k--) {
                if (texts.get(k).key == key) {
                    return k;
                }
            }
            return -1;
        }

        int given(int key, int without, int most, int... of) {
            int text = textFor(key);
            int v = text < 0 ? without : texts.get(text).tree.value(NAMES.get(key), of);
            return v < 0 ? 0 : Math.min(v, most);
        }

        int nextFires(int k) {
            int n = wagons.size();
            int sum = 0;
            for (int other = 0; other < n; other++) {
                boolean isNext = (other + 1) % n == k || (k + 1) % n == other;
                sum += isNext && other != k ? wagons.get(other).fire : 0;
            }
            return sum;
        }

        int light(int k) {
            int f = wagons.get(k).fire;
            int n = nextFires(k);
            return given(0, 2 * f + n, 99, f, n, wood);
        }

        int sees(Watcher w) {
            return w.at >= wagons.size() ? 0 : w.sees(light(w.at), wagons.get(w.at).foals);
        }

        int guard(int k) {
            return light(k) + watchers.stream().filter(w -> w.at == k).mapToInt(this::sees).sum();
        }

        int fears(int k) {
            int g = guard(k);
            int t = wagons.get(k).tried;
            return given(1, g + t, 999, g, t, hunger);
        }

        int comeTo() {
            int best = -1;
            for (int k = 0; k < wagons.size() && wolves > 0; k++) {
                best = best < 0 || fears(k) < fears(best) ? k : best;
            }
            return best;
        }

        boolean wentOut;
        int came;

        void anHour() {
            wentOut = false;
            for (Wagon w : wagons) {
                if (w.fire > wood) {
                    w.fire = 0;
                    wentOut = true;
                } else {
                    wood -= w.fire;
                    burnt += w.fire;
                }
            }
            came = comeTo();
            if (came >= 0) {
                Wagon w = wagons.get(came);
                if (guard(came) < wolves + hunger && w.foals > 0) {
                    w.foals--;
                    lost++;
                    hunger = 0;
                    w.tried = 0;
                } else {
                    w.tried = Math.min(w.tried + 1, 99);
                    hunger = Math.min(hunger + 1, 99);
                }
            }
            for (Watcher w : watchers) {
                if (w.on) {
                    w.tired = Math.min(999, w.tired + given(2, 1, 99, w.tired, w.eyes));
                } else {
                    w.tired = Math.max(0, w.tired - 2);
                    slept++;
                }
            }
            hour++;
        }

        State behind(int n) {
            State s = twin();
            for (int k = 0; k < n; k++) {
                s.anHour();
            }
            return s;
        }

        int foals() {
            return wagons.stream().mapToInt(w -> w.foals).sum();
        }

        int draw() {
            z = z * 1103515245 + 12345;
            return z >>> 8;
        }
    }

    State s = new State();
    State image;
    final Object[] sheets = new Object[4];
    final Object[] slots = new Object[5];
    final List<Integer> waiting = new ArrayList<>();
    String tape = "";

    private boolean isWagon(int k) {
        return k >= 0 && k < s.wagons.size();
    }

    private boolean isWatcher(int k) {
        return k >= 0 && k < s.watchers.size();
    }

    int wagon(int foals) {
        if (foals < 0 || foals > 99) {
            return Due.BAD;
        }
        if (s.wagons.size() == 12) {
            return Due.FULL;
        }
        Wagon w = new Wagon();
        w.foals = foals;
        s.wagons.add(w);
        return s.wagons.size() - 1;
    }

    int at(int k, int what) {
        if (!isWagon(k) || what < 0 || what > 5) {
            return Due.BAD;
        }
        Wagon w = s.wagons.get(k);
        return new int[] {w.foals, w.fire, w.tried, s.light(k), s.guard(k), s.fears(k)}[what];
    }

    int lays(int k, int what, int v) {
        if (!isWagon(k) || what < 0 || what > 2 || v < 0 || v > (what == 1 ? 9 : 99)) {
            return Due.BAD;
        }
        int was = at(k, what);
        Wagon w = s.wagons.get(k);
        switch (what) {
            case 0 -> w.foals = v;
            case 1 -> w.fire = v;
            default -> w.tried = v;
        }
        return was;
    }

    int far(int one, int other) {
        if (!isWagon(one) || !isWagon(other)) {
            return Due.BAD;
        }
        int up = 0;
        for (int k = one; k != other; k = (k + 1) % s.wagons.size()) {
            up++;
        }
        int down = 0;
        for (int k = other; k != one; k = (k + 1) % s.wagons.size()) {
            down++;
        }
        return Math.min(up, down);
    }

    int plain(int what, int v) {
        if (what < 0 || what > 2 || v < 0 || v > (what == 0 ? 9999 : 99)) {
            return Due.BAD;
        }
        int was = new int[] {s.wood, s.wolves, s.hunger}[what];
        switch (what) {
            case 0 -> s.wood = v;
            case 1 -> s.wolves = v;
            default -> s.hunger = v;
        }
        return was;
    }

    int watcher(int kind, int at, int eyes) {
        if (kind < 0 || kind > 5 || at < 0 || at > 11 || eyes < 1 || eyes > 9) {
            return Due.BAD;
        }
        if (s.watchers.size() == 8) {
            return Due.FULL;
        }
        s.watchers.add(Watcher.of(kind, at, eyes, 0, false));
        return s.watchers.size() - 1;
    }

    int told(int k, int what) {
        if (!isWatcher(k) || what < 0 || what > 6) {
            return Due.BAD;
        }
        Watcher w = s.watchers.get(k);
        return new int[] {w.kind, w.at, w.eyes, w.tired, w.on ? 1 : 0, s.sees(w), w.worth()}[what];
    }

    int as(int k, int kind) {
        if (!isWatcher(k) || kind < 0 || kind > 5) {
            return Due.BAD;
        }
        return KINDS.get(kind).isInstance(s.watchers.get(k)) ? s.watchers.get(k).eyes : Due.KIND;
    }

    int turns(int k, int kind) {
        if (!isWatcher(k) || kind < 0 || kind > 5) {
            return Due.BAD;
        }
        Watcher was = s.watchers.get(k);
        s.watchers.set(k, was.turned(kind));
        return was.kind;
    }

    int set(int k, int what, int v) {
        int[][] range = {{1, 0}, {0, 11}, {1, 9}, {0, 999}, {0, 1}};
        if (!isWatcher(k) || what < 1 || what > 4 || v < range[what][0] || v > range[what][1]) {
            return Due.BAD;
        }
        int was = told(k, what);
        Watcher w = s.watchers.get(k);
        switch (what) {
            case 1 -> w.at = v;
            case 2 -> w.eyes = v;
            case 3 -> w.tired = v;
            default -> w.on = v == 1;
        }
        return was;
    }

    int deal(int n) {
        if (n < 1 || n > 8) {
            return Due.BAD;
        }
        int came = 0;
        while (came < n && s.watchers.size() < 8) {
            int kind = s.draw() % 6;
            int at = s.draw() % 12;
            watcher(kind, at, 1 + s.draw() % 9);
            came++;
        }
        return came;
    }

    int seed(int v) {
        int was = s.z;
        s.z = v;
        return was;
    }

    int hours(int n) {
        if (n < 1 || n > 300) {
            return Due.BAD;
        }
        int was = s.lost;
        for (int k = 0; k < n && s.hour < 9999; k++) {
            s.anHour();
        }
        return s.lost - was;
    }

    int night(int what) {
        if (what < 0 || what > 3) {
            return Due.BAD;
        }
        int come = s.comeTo();
        return new int[] {s.lost, s.slept, s.burnt, come < 0 ? Due.NONE : come}[what];
    }

    int behind(int n, int what) {
        if (n < 0 || n > 300 || what < 0 || what > 3) {
            return Due.BAD;
        }
        State t = s.behind(n);
        return new int[] {t.lost, t.wood, t.hunger, t.foals()}[what];
    }

    int lasts() {
        State t = s.twin();
        for (int k = 1; k <= 300; k++) {
            t.anHour();
            if (t.wentOut) {
                return k;
            }
        }
        return Due.NONE;
    }

    int loss() {
        State t = s.twin();
        for (int k = 1; k <= 300; k++) {
            t.anHour();
            if (t.lost > s.lost) {
                return k;
            }
        }
        return Due.NONE;
    }

    int dark(int v) {
        if (v < 0 || v > 100) {
            return Due.BAD;
        }
        int set = 0;
        for (int k = 0; k < s.wagons.size(); k++) {
            set += s.light(k) < v ? 1 << k : 0;
        }
        return set;
    }

    private int[] best;

    int fires(int w, int what) {
        if (w < 0 || w > 18 || what < 0 || what > 2) {
            return Due.BAD;
        }
        if (s.wagons.isEmpty() || s.wagons.size() > 6) {
            return Due.NONE;
        }
        best = null;
        tryFires(s.twin(), 0, w, 0, 0);
        return best[what];
    }

    private void tryFires(State t, int k, int left, int together, int digits) {
        if (k < t.wagons.size()) {
            for (int f = 0; f <= Math.min(3, left); f++) {
                t.wagons.get(k).fire = f;
                tryFires(t, k + 1, left - f, together + f, digits * 4 + f);
            }
            return;
        }
        int least = 99;
        for (int j = 0; j < k; j++) {
            least = Math.min(least, t.light(j));
        }
        if (best == null || least > best[0] || least == best[0] && together < best[1]) {
            best = new int[] {least, together, digits};
        }
    }

    int watch(int n, int what) {
        if (n < 1 || n > 60 || what < 0 || what > 1) {
            return Due.BAD;
        }
        int[] found = {Due.NONE, Due.NONE};
        for (int k = 0; k < s.watchers.size(); k++) {
            State t = s.twin();
            t.watchers.forEach(w -> w.on = false);
            t.watchers.get(k).on = true;
            int lost = t.behind(n).lost;
            if (found[0] == Due.NONE || lost < found[1]) {
                found = new int[] {k, lost};
            }
        }
        return found[what];
    }

    int place(int k, int n) {
        if (!isWatcher(k) || n < 1 || n > 60) {
            return Due.BAD;
        }
        int found = Due.NONE;
        int least = Integer.MAX_VALUE;
        for (int at = 0; at < s.wagons.size(); at++) {
            State t = s.twin();
            t.watchers.get(k).on = true;
            t.watchers.get(k).at = at;
            int lost = t.behind(n).lost;
            if (lost < least) {
                found = at;
                least = lost;
            }
        }
        return found;
    }

    private static int places(Object sheet) {
        return sheet instanceof short[] row ? row.length : ((float[]) sheet).length;
    }

    private static float placeOf(Object sheet, int place) {
        return sheet instanceof short[] row ? row[place] : ((float[]) sheet)[place];
    }

    int signs(int sheet, int n, int what) {
        if (sheet < 0 || sheet > 3 || n < 0 || n > 60 || what < 0 || what > 1) {
            return Due.BAD;
        }
        Object row = sheets[sheet];
        if (row == null) {
            return Due.NOTHING;
        }
        int[] found = {-1, 0};
        for (int wolves = 0; wolves <= 40; wolves++) {
            State t = s.twin();
            t.wolves = wolves;
            t = t.behind(n);
            int sum = 0;
            for (int k = 0; k < places(row); k++) {
                float v = placeOf(row, k);
                int foals = k < t.wagons.size() ? t.wagons.get(k).foals : 0;
                sum += Float.isNaN(v) ? 0 : Math.abs((int) v - foals);
            }
            if (found[0] < 0 || sum < found[1]) {
                found = new int[] {wolves, sum};
            }
        }
        return found[what];
    }

    int feed(int a, int b, int c) {
        if (tape.length() > 84) {
            return Due.FULL;
        }
        byte[] bytes = java.nio.ByteBuffer.allocate(12).putInt(a).putInt(b).putInt(c).array();
        tape += new String(bytes, java.nio.charset.StandardCharsets.ISO_8859_1);
        return tape.length();
    }

    int trim(int n) {
        if (n < 0 || n > tape.length()) {
            return Due.BAD;
        }
        tape = tape.substring(0, n);
        return n;
    }

    int text() {
        String read = tape;
        tape = "";
        try {
            Text text = new Reader().read(read);
            if (s.texts.size() == 14) {
                return Due.FULL;
            }
            s.texts.add(text);
            return s.texts.size() - 1;
        } catch (Fault fault) {
            return -100 - fault.place;
        }
    }

    int textTold(int k, int what) {
        if (k < 0 || k >= s.texts.size() || what < 0 || what > 1) {
            return Due.BAD;
        }
        return what == 0 ? s.texts.get(k).key : s.texts.get(k).tree.leaves();
    }

    int why(int key) {
        if (key < 0 || key > 2) {
            return Due.BAD;
        }
        return s.textFor(key) < 0 ? Due.NONE : s.textFor(key);
    }

    int sheet(int sheet, int sort, int n) {
        if (sheet < 0 || sheet > 3 || sort < -1 || sort > 1 || sort >= 0 && n > 24) {
            return Due.BAD;
        }
        if (sort == -1) {
            sheets[sheet] = null;
            return 0;
        }
        try {
            sheets[sheet] = sort == 0 ? new short[n] : new float[n];
            return n;
        } catch (NegativeArraySizeException e) {
            return Due.SIZE;
        }
    }

    int mark(int sheet, int place, int v) {
        if (sheet < 0 || sheet > 3) {
            return Due.BAD;
        }
        if (sheets[sheet] == null) {
            return Due.NOTHING;
        }
        if (place < 0 || place >= places(sheets[sheet])) {
            return Due.INDEX;
        }
        if (sheets[sheet] instanceof short[] row) {
            if (v == Due.NONE) {
                return Due.KIND;
            }
            row[place] = (short) v;
            return 1;
        }
        if (v != Due.NONE && Math.abs((long) v) > 99999) {
            return Due.BAD;
        }
        ((float[]) sheets[sheet])[place] = v == Due.NONE ? Float.NaN : v;
        return 1;
    }

    int pour(int sheet) {
        if (sheet < 0 || sheet > 3) {
            return Due.BAD;
        }
        Object row = sheets[sheet];
        if (row == null) {
            return Due.NOTHING;
        }
        int otherwise = 0;
        for (int k = 0; k < Math.min(places(row), s.wagons.size()); k++) {
            float v = placeOf(row, k);
            int was = s.wagons.get(k).foals;
            int is = Float.isNaN(v) ? was : (int) Math.max(0, Math.min(99, v));
            s.wagons.get(k).foals = is;
            otherwise += is == was ? 0 : 1;
        }
        return otherwise;
    }

    int reads(int sheet) {
        if (sheet < 0 || sheet > 3) {
            return Due.BAD;
        }
        Object row = sheets[sheet];
        if (row == null) {
            return Due.NOTHING;
        }
        for (int k = 0; k < places(row); k++) {
            float v = placeOf(row, k);
            if (!Float.isNaN(v) && (!isWagon(k) || v != s.light(k))) {
                return k;
            }
        }
        return Due.NONE;
    }

    int copy(int from, int place, int to, int at, int many) {
        if (from < 0 || from > 3 || to < 0 || to > 3) {
            return Due.BAD;
        }
        try {
            System.arraycopy(sheets[from], place, sheets[to], at, many);
            return many;
        } catch (NullPointerException e) {
            return Due.NOTHING;
        } catch (ArrayStoreException e) {
            return Due.KIND;
        } catch (IndexOutOfBoundsException e) {
            return Due.INDEX;
        }
    }

    int lay(int slot, int thing, int k) {
        if (slot < 0 || slot > 4 || thing < 0 || thing > 3 || thing == 1 && !isWatcher(k) || thing == 2 && (k < 0 || k > 3)) {
            return Due.BAD;
        }
        if (thing == 2 && sheets[k] == null) {
            return Due.NOTHING;
        }
        Object was = slots[slot];
        switch (thing) {
            case 0 -> slots[slot] = null;
            case 1 -> slots[slot] = s.watchers.get(k).turned(s.watchers.get(k).kind);
            case 2 -> slots[slot] = sheets[k] instanceof short[] row ? row.clone() : ((float[]) sheets[k]).clone();
            default -> slots[slot] = k;
        }
        return was == null ? 0 : was instanceof Watcher ? 1 : was instanceof Integer ? 3 : 2;
    }

    int ask(int slot, int kind) {
        if (slot < 0 || slot > 4 || kind < 0 || kind > 5) {
            return Due.BAD;
        }
        if (slots[slot] == null) {
            return Due.NOTHING;
        }
        return KINDS.get(kind).isInstance(slots[slot]) ? ((Watcher) slots[slot]).worth() : Due.KIND;
    }

    int item(int slot, int place) {
        if (slot < 0 || slot > 4) {
            return Due.BAD;
        }
        Object held = slots[slot];
        if (held == null) {
            return Due.NOTHING;
        }
        if (!held.getClass().isArray()) {
            return Due.KIND;
        }
        if (place < 0 || place >= places(held)) {
            return Due.INDEX;
        }
        float v = placeOf(held, place);
        return Float.isNaN(v) ? Due.KIND : (int) v;
    }

    int rest(int slot, int n) {
        if (slot < 0 || slot > 4) {
            return Due.BAD;
        }
        if (slots[slot] == null) {
            return Due.NOTHING;
        }
        if (!(slots[slot] instanceof Integer number)) {
            return Due.KIND;
        }
        try {
            return number % n;
        } catch (ArithmeticException e) {
            return Due.NO;
        }
    }

    int tell(int v) {
        if (waiting.size() == 60) {
            return Due.FULL;
        }
        waiting.add(v);
        return waiting.size();
    }

    /** The hours told, by the image; it is for the runs too, which could hardly guess them. */
    List<Integer> hoursTold(int n) {
        List<Integer> due = new ArrayList<>();
        State t = image.twin();
        for (int k = 0; k < n && t.hour < 9999; k++) {
            t.anHour();
            due.addAll(Arrays.asList(t.came < 0 ? 99 : t.came, t.lost + t.wood * 100));
        }
        return due;
    }

    int check(int n) {
        List<Integer> row = new ArrayList<>(waiting);
        waiting.clear();
        if (n < 1 || n > 30) {
            return Due.BAD;
        }
        if (image == null) {
            return Due.NO;
        }
        List<Integer> due = hoursTold(n);
        if (due.equals(row)) {
            return 0;
        }
        int right = 0;
        while (right < due.size() && right < row.size() && due.get(right).equals(row.get(right))) {
            right++;
        }
        return 1 + right;
    }

    int keep() {
        image = s.twin();
        return s.wagons.size();
    }

    int back() {
        if (image == null) {
            return Due.NO;
        }
        s = image.twin();
        return s.wagons.size();
    }

    int count(int what) {
        int on = (int) s.watchers.stream().filter(w -> w.on).count();
        int[] row = {s.wagons.size(), s.watchers.size(), on, s.wood, s.wolves, s.hunger, s.hour, s.foals(), s.texts.size(),
            waiting.size(), tape.length(), s.z};
        return what < 0 || what >= row.length ? Due.BAD : row[what];
    }
}
