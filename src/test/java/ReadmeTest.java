import java.io.IOException;
import java.lang.reflect.Method;
import java.lang.reflect.Modifier;
import java.nio.file.Files;
import java.nio.file.Path;
import java.util.HashSet;
import java.util.Set;
import java.util.regex.Matcher;
import java.util.regex.Pattern;

/** The examples of README.md, one behind the other on one object, and that each call of the face is among them. */
public final class ReadmeTest {
    private static final Pattern EXAMPLE = Pattern.compile("(?m)^camp\\.(\\w+)\\((.*?)\\);\\s*// (-?\\w+)");
    private static final Pattern CALL = Pattern.compile("(?m)^camp\\.");

    public static void main(String[] args) throws IOException {
        String readme = Files.readString(Path.of("README.md"));
        Script camp = new Script();
        Set<String> shown = new HashSet<>();
        Matcher example = EXAMPLE.matcher(readme);
        while (example.find()) {
            shown.add(example.group(1));
            String call = example.group(1) + "(" + example.group(2) + ")";
            Due.is("README.md: " + call, camp.call(example.group(1), numbers(example.group(2))), number(example.group(3)));
        }
        Due.is("examples that say what they answer", EXAMPLE.matcher(readme).results().count(), CALL.matcher(readme).results().count());
        for (Method m : WolfFires.class.getDeclaredMethods()) {
            Due.holds("README.md shows " + m.getName(), !Modifier.isPublic(m.getModifiers()) || shown.contains(m.getName()));
        }
        Due.ends("ReadmeTest");
    }

    private static int[] numbers(String words) {
        String[] all = words.isEmpty() ? new String[0] : words.split(",");
        int[] numbers = new int[all.length];
        for (int k = 0; k < all.length; k++) {
            numbers[k] = number(all[k].trim().replace("WolfFires.", ""));
        }
        return numbers;
    }

    private static int number(String word) {
        return word.startsWith("0x") ? Integer.parseUnsignedInt(word.substring(2), 16) : Script.number(word);
    }
}
