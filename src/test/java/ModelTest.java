import java.lang.reflect.Method;
import java.util.ArrayList;
import java.util.List;
import java.util.Random;

/** Long runs of calls, by lot from fixed seeds: the class and the model of the document answer alike. */
public final class ModelTest {
    private static final int RUNS = 1500;
    private static final int CALLS = 512;

    private final Random lot;
    private final WolfFires x = new WolfFires();
    private final Model model = new Model();
    private final List<String> last = new ArrayList<>();
    private int calls = 0;
    private boolean same = true;

    private ModelTest(long seed) {
        lot = new Random(seed);
    }

    public static void main(String[] args) throws Exception {
        Method[] own = WolfFires.class.getDeclaredMethods();
        List<Method> face = new ArrayList<>();
        for (Method m : own) {
            if (java.lang.reflect.Modifier.isPublic(m.getModifiers())) {
                face.add(m);
            }
        }
        face.sort((a, b) -> a.getName().compareTo(b.getName()));
        Due.is("methods", face.size(), 41);
        for (int run = 0; run < RUNS; run++) {
            ModelTest test = new ModelTest(run);
            test.settle(face);
            while (test.calls < CALLS && test.same) {
                test.step(face);
            }
            Due.holds("run " + run + ": " + String.join(", ", test.last), test.same);
        }
        Due.ends("ModelTest");
    }

    private void call(Method m, int... given) throws Exception {
        Object[] args = new Object[given.length];
        StringBuilder told = new StringBuilder(m.getName()).append('(');
        for (int k = 0; k < given.length; k++) {
            args[k] = given[k];
            told.append(k == 0 ? "" : ", ").append(given[k]);
        }
        int got = (Integer) m.invoke(x, args);
        int want = (Integer) Model.class.getDeclaredMethod(m.getName(), m.getParameterTypes()).invoke(model, args);
        calls++;
        last.add(told + ")=" + got);
        if (last.size() > 6) {
            last.remove(0);
        }
        if (got != want) {
            same = false;
            last.add("due is " + want);
        }
    }

    private static Method named(List<Method> face, String name) {
        return face.stream().filter(m -> m.getName().equals(name)).findFirst().get();
    }

    /** Most runs begin with a camp, as a bare one has little to tell. */
    private void settle(List<Method> face) throws Exception {
        int wagons = lot.nextInt(14);
        for (int k = 0; k < wagons && same; k++) {
            call(named(face, "wagon"), lot.nextInt(12));
            call(named(face, "lays"), k, 1, Math.max(0, lot.nextInt(14) - 6));
        }
        int watchers = lot.nextInt(10);
        for (int k = 0; k < watchers && same; k++) {
            call(named(face, "watcher"), lot.nextInt(6), lot.nextInt(Math.max(1, Math.min(12, wagons))), 1 + lot.nextInt(9));
            call(named(face, "set"), k, 4, lot.nextInt(2));
        }
        call(named(face, "plain"), 0, lot.nextInt(lot.nextBoolean() ? 100 : 3000));
        call(named(face, "plain"), 1, lot.nextInt(25));
    }

    private void step(List<Method> face) throws Exception {
        int way = lot.nextInt(30);
        if (way == 0) {
            types(face);
        } else if (way == 1) {
            tells(face);
        } else {
            Method m = face.get(lot.nextInt(face.size()));
            boolean dear = m.getName().equals("signs") || m.getName().equals("hours") || m.getName().equals("fires");
            if (dear && lot.nextInt(3) > 0) {
                return;
            }
            int[] args = new int[m.getParameterCount()];
            for (int k = 0; k < args.length; k++) {
                args[k] = number(m.getName(), k);
            }
            call(m, args);
        }
    }

    private int number(String name, int k) {
        int way = lot.nextInt(40);
        if (way == 0) {
            return lot.nextInt();
        }
        if (way == 1) {
            int[] edges = {-1, Integer.MIN_VALUE, Integer.MAX_VALUE, Due.NONE, 99, 100, 12, 24, 25, 300, 301, 60, 61, 9999, 10000,
                999, 1000, 99999, 100000, -99999, 32768, 65535};
            return edges[lot.nextInt(edges.length)];
        }
        boolean many = name.equals("hours") || name.equals("behind") && k == 0 || name.equals("watch") && k == 0
            || name.equals("place") && k == 1 || name.equals("signs") && k == 1 || name.equals("dark");
        if (many) {
            return lot.nextInt(lot.nextInt(4) == 0 ? 62 : 12);
        }
        if (name.equals("sheet") && k == 1) {
            return lot.nextInt(9) == 0 ? -1 : lot.nextInt(2);
        }
        if (name.equals("sheet") && k == 2 || name.equals("fires") && k == 0) {
            return lot.nextInt(26) - 1;
        }
        if (name.equals("mark") && k == 2) {
            return lot.nextInt(7) == 0 ? Due.NONE : lot.nextInt(16) - 2;
        }
        if (name.equals("trim")) {
            return lot.nextInt(97);
        }
        boolean small = k == 0 && !name.equals("seed") && !name.equals("tell");
        return small ? lot.nextInt(lot.nextInt(3) == 0 ? 13 : 4) : lot.nextInt(lot.nextInt(3) == 0 ? 14 : 7);
    }

    private void types(List<Method> face) throws Exception {
        call(named(face, "trim"), 0);
        StringBuilder text = new StringBuilder(lot.nextInt(5) == 0 ? " " : "");
        int key = lot.nextInt(3);
        text.append(new String[] {"light ", "fear ", "tire "}[key]);
        grow(text, key, 3 + lot.nextInt(3));
        if (lot.nextInt(3) == 0) {
            String signs = "()!+-*/<=>&|0123456789 fnwgthe lightfear{A\u00ff";
            int at = lot.nextInt(text.length());
            char sign = signs.charAt(lot.nextInt(signs.length()));
            if (lot.nextBoolean()) {
                text.setCharAt(at, sign);
            } else {
                text.insert(at, sign);
            }
        }
        text.setLength(Math.min(96, text.length()));
        String typed = text.toString();
        for (int k = 0; k < typed.length() && same; k += 12) {
            int[] fed = new int[3];
            for (int j = 0; j < 12; j++) {
                fed[j / 4] = fed[j / 4] << 8 | (k + j < typed.length() ? typed.charAt(k + j) : 32);
            }
            call(named(face, "feed"), fed);
        }
        call(named(face, "trim"), typed.length());
        call(named(face, "text"));
    }

    private void grow(StringBuilder text, int key, int depth) {
        int way = depth <= 0 ? lot.nextInt(2) : lot.nextInt(7);
        String blank = lot.nextInt(6) == 0 ? " " : "";
        if (way == 0) {
            String names = new String[] {"fnw", "gth", "te"}[key];
            text.append(names.charAt(lot.nextInt(names.length())));
        } else if (way == 1) {
            text.append(lot.nextInt(lot.nextInt(5) == 0 ? 12000 : 12));
        } else if (way == 2) {
            text.append('!').append(blank);
            grow(text, key, depth - 1);
        } else if (way == 3) {
            text.append('(').append(blank);
            grow(text, key, depth - 1);
            text.append(blank).append(')');
        } else {
            grow(text, key, depth - 1);
            text.append(blank).append("+-*/<=>&|".charAt(lot.nextInt(9))).append(blank);
            grow(text, key, depth - 1);
        }
    }

    private void tells(List<Method> face) throws Exception {
        call(named(face, "check"), 1);
        if (lot.nextInt(3) == 0) {
            call(named(face, "keep"));
        }
        if (model.image == null) {
            return;
        }
        int n = 1 + lot.nextInt(lot.nextInt(3) == 0 ? 30 : 5);
        List<Integer> row = model.hoursTold(n);
        if (lot.nextInt(3) == 0) {
            row.add(7);
        }
        if (lot.nextInt(3) == 0 && !row.isEmpty()) {
            int at = lot.nextInt(row.size());
            row.set(at, row.get(at) + 1);
        }
        if (lot.nextInt(4) == 0 && !row.isEmpty()) {
            row.remove(row.size() - 1);
        }
        for (int v : row) {
            if (same) {
                call(named(face, "tell"), v);
            }
        }
        call(named(face, "check"), n);
    }
}
