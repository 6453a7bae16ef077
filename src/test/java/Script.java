import java.lang.reflect.InvocationTargetException;
import java.lang.reflect.Method;
import java.util.Arrays;
import java.util.HashMap;
import java.util.List;
import java.util.Map;

/**
 * Calls on one object, written as the document writes them: "wagon(100) = BAD; wagon(99) = 0". A call without an answer
 * must only not be refused; 'light f' in quotes goes to the tape and is read; a line may bear several calls.
 */
final class Script {
    private static final int MOST_CALLS = 512;
    private static final Map<String, Integer> NAMED = named();
    private static final Map<String, Method> FACE = face();

    final WolfFires x = new WolfFires();
    private int calls = 0;

    private static Map<String, Integer> named() {
        Map<String, Integer> all = new HashMap<>();
        all.put("BAD", Due.BAD);
        all.put("NO", Due.NO);
        all.put("FULL", Due.FULL);
        all.put("NONE", Due.NONE);
        all.put("NOTHING", Due.NOTHING);
        all.put("KIND", Due.KIND);
        all.put("INDEX", Due.INDEX);
        all.put("SIZE", Due.SIZE);
        all.put("LEAST", Integer.MIN_VALUE);
        all.put("MOST", Integer.MAX_VALUE);
        return all;
    }

    private static Map<String, Method> face() {
        Map<String, Method> all = new HashMap<>();
        for (Method m : WolfFires.class.getMethods()) {
            if (m.getDeclaringClass() == WolfFires.class) {
                all.put(m.getName(), m);
            }
        }
        return all;
    }

    static int number(String word) {
        Integer named = NAMED.get(word.trim());
        return named != null ? named : Integer.parseInt(word.trim());
    }

    static boolean isRefusal(int answer) {
        return answer <= Due.BAD && answer >= Due.SIZE && answer != Due.NONE;
    }

    /** Makes the calls and looks at their answers. */
    Script on(String... lines) {
        for (String line : lines) {
            for (String call : split(line)) {
                one(call);
            }
        }
        return this;
    }

    /** The parts of a line, by ; and new lines, but for those in quotes. */
    private static List<String> split(String line) {
        List<String> parts = new java.util.ArrayList<>();
        StringBuilder part = new StringBuilder();
        boolean quoted = false;
        for (char c : (line + ";").toCharArray()) {
            quoted ^= c == '\'';
            if (!quoted && (c == ';' || c == '\n')) {
                if (!part.toString().isBlank()) {
                    parts.add(part.toString().trim());
                }
                part.setLength(0);
            } else {
                part.append(c);
            }
        }
        return parts;
    }

    private void one(String call) {
        int cut = call.lastIndexOf('=');
        boolean due = cut > call.lastIndexOf('\'') && cut > call.lastIndexOf(')');
        String made = due ? call.substring(0, cut).trim() : call;
        int got = answer(made);
        if (due) {
            Edge.is(made, got, number(call.substring(cut + 1)));
        } else {
            boolean refused = made.startsWith("'") ? got < 0 : isRefusal(got);
            Edge.is(made + ", not refused", refused ? got : 0, 0);
        }
    }

    /** What one call answers. */
    int answer(String call) {
        if (call.startsWith("'")) {
            return read(call.substring(1, call.lastIndexOf('\'')));
        }
        String[] words = call.substring(call.indexOf('(') + 1, call.lastIndexOf(')')).split(",");
        int[] args = call.endsWith("()") ? new int[0] : Arrays.stream(words).mapToInt(Script::number).toArray();
        return call(call.substring(0, call.indexOf('(')), args);
    }

    int call(String name, int... args) {
        calls++;
        if (calls > MOST_CALLS) {
            throw new IllegalStateException("the test makes more than 512 calls on one object");
        }
        Method m = FACE.get(name);
        try {
            return (Integer) m.invoke(x, Arrays.stream(args).boxed().toArray());
        } catch (IllegalAccessException | InvocationTargetException e) {
            throw new IllegalStateException(name + Arrays.toString(args), e);
        }
    }

    /** A text comes to the tape, whatever stood there, and is read. */
    private int read(String text) {
        call("trim", 0);
        type(text);
        return call("text");
    }

    /** A text comes to the tape, behind what it has. */
    void type(String text) {
        int had = call("count", 10);
        for (int k = 0; k < text.length(); k += 12) {
            int[] fed = new int[3];
            for (int j = 0; j < 12; j++) {
                fed[j / 4] = fed[j / 4] << 8 | (k + j < text.length() ? text.charAt(k + j) & 255 : 0);
            }
            call("feed", fed);
        }
        if (call("trim", had + text.length()) < 0) {
            throw new IllegalStateException("the test types more than the tape holds");
        }
    }
}
