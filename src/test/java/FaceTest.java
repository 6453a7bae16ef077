import java.io.IOException;
import java.lang.reflect.Constructor;
import java.lang.reflect.Field;
import java.lang.reflect.Method;
import java.lang.reflect.Modifier;
import java.nio.file.Files;
import java.nio.file.Path;
import java.util.Arrays;
import java.util.HashSet;
import java.util.Set;
import java.util.TreeSet;
import java.util.regex.Matcher;
import java.util.regex.Pattern;

/** The public face as the document has it, and the rules of LANGUAGE.md that can be seen from outside or by words. */
public final class FaceTest {
    private static final String FACE = "as(2) ask(2) at(2) back(0) behind(2) check(1) copy(5) count(1) dark(1) deal(1) far(2) "
        + "feed(3) fires(2) hours(1) item(2) keep(0) lasts(0) lay(3) lays(3) loss(0) mark(3) night(1) place(2) plain(2) pour(1) "
        + "reads(1) rest(2) seed(1) set(3) sheet(3) signs(3) tell(1) text(0) textTold(2) told(2) trim(1) turns(2) wagon(1) "
        + "watch(2) watcher(3) why(1)";
    private static final String CONSTANTS = "BAD=-1000000001 FULL=-1000000003 INDEX=-1000000013 KIND=-1000000012 "
        + "NO=-1000000002 NONE=-1000000005 NOTHING=-1000000011 SIZE=-1000000014";

    public static void main(String[] args) throws Exception {
        face();
        nested();
        words();
        Due.ends("FaceTest");
    }

    private static void face() throws Exception {
        Class<?> c = WolfFires.class;
        Due.holds("public and final", Modifier.isPublic(c.getModifiers()) && Modifier.isFinal(c.getModifiers()));
        Constructor<?>[] made = c.getDeclaredConstructors();
        Due.holds("one public constructor", made.length == 1 && Modifier.isPublic(made[0].getModifiers())
            && made[0].getParameterCount() == 0);
        Set<String> methods = new TreeSet<>();
        for (Method m : c.getDeclaredMethods()) {
            if (Modifier.isPublic(m.getModifiers())) {
                boolean ints = m.getReturnType() == int.class && !Modifier.isStatic(m.getModifiers())
                    && Arrays.stream(m.getParameterTypes()).allMatch(t -> t == int.class);
                Due.holds(m.getName() + " is of ints", ints);
                methods.add(m.getName() + "(" + m.getParameterCount() + ")");
            } else {
                Due.holds(m.getName() + " is private", Modifier.isPrivate(m.getModifiers()));
            }
        }
        Due.holds("the methods: " + methods, methods.equals(new TreeSet<>(Arrays.asList(FACE.split(" ")))));
        Set<String> constants = new TreeSet<>();
        for (Field f : c.getDeclaredFields()) {
            if (Modifier.isPublic(f.getModifiers())) {
                Due.holds(f.getName() + " is static, final, an int", Modifier.isStatic(f.getModifiers())
                    && Modifier.isFinal(f.getModifiers()) && f.getType() == int.class);
                constants.add(f.getName() + "=" + f.getInt(null));
            } else {
                Due.holds(f.getName() + " is private", Modifier.isPrivate(f.getModifiers()));
            }
        }
        Due.holds("the constants: " + constants, constants.equals(new TreeSet<>(Arrays.asList(CONSTANTS.split(" ")))));
    }

    private static void nested() {
        Set<String> face = new HashSet<>();
        for (String m : FACE.split(" ")) {
            face.add(m.substring(0, m.indexOf('(')));
        }
        Class<?>[] inside = WolfFires.class.getDeclaredClasses();
        Due.holds("twelve classes at most", inside.length < 12);
        for (Class<?> c : inside) {
            Due.holds(c + " is static, and not public", Modifier.isStatic(c.getModifiers())
                && !Modifier.isPublic(c.getModifiers()) && !Modifier.isProtected(c.getModifiers()));
            int fields = 0;
            for (Field f : c.getDeclaredFields()) {
                fields += Modifier.isStatic(f.getModifiers()) ? 0 : 1;
                Due.holds(f + ": static is final", !Modifier.isStatic(f.getModifiers()) || Modifier.isFinal(f.getModifiers()));
            }
            Due.holds(c + ": twenty fields at most", fields <= 20);
            for (Method m : c.getDeclaredMethods()) {
                Due.holds(m + " bears no public name", !face.contains(m.getName()));
                Due.holds(m + ": seven parameters at most", m.getParameterCount() <= 7);
            }
        }
    }

    private static void words() throws IOException {
        String source = Files.readString(Path.of("src/main/java/WolfFires.java"));
        String code = source.replaceAll("(?s)/\\*.*?\\*/", "").replaceAll("//[^\n]*", "").replaceAll("\"[^\"\n]*\"", "\"\"");
        for (String word : "throw try catch synchronized assert throws finally native volatile transient".split(" ")) {
            Due.holds("no " + word, !Pattern.compile("\\b" + word + "\\b").matcher(code).find());
        }
        for (String sign : new String[] {"->", "::", "Exact(", "System.out", "@"}) {
            Due.holds("no " + sign, !code.contains(sign));
        }
        Matcher imports = Pattern.compile("(?m)^import (.*);").matcher(code);
        while (imports.find()) {
            Due.holds("import " + imports.group(1), imports.group(1).equals("java.util.Arrays"));
        }
        Matcher library = Pattern.compile("\\b(Math|Arrays|System|Integer|Long)\\.(\\w+)").matcher(code);
        Set<String> allowed = new HashSet<>(Arrays.asList("Math.max", "Math.min", "Math.abs", "Arrays.fill", "System.arraycopy"));
        while (library.find()) {
            Due.holds(library.group(), allowed.contains(library.group()));
        }
        Due.holds("all signs are 32 to 126", source.chars().allMatch(c -> c == '\n' || c >= 32 && c < 127));
        methodsAreShort(source);
    }

    private static void methodsAreShort(String source) {
        Matcher m = Pattern.compile("(?ms)^( {4}| {8})(?:public|private|static|int|void|boolean|String)[^;={]*\\) \\{\n(.*?)^\\1\\}")
            .matcher(source);
        int seen = 0;
        while (m.find()) {
            seen++;
            String head = m.group().substring(0, m.group().indexOf('{')).trim();
            Due.holds(head + " is short", m.group(2).lines().count() <= 50);
        }
        Due.holds("methods were found", seen > 80);
    }
}
