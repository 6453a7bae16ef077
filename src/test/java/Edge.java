import java.io.IOException;
import java.nio.file.Files;
import java.nio.file.Path;
import java.util.LinkedHashSet;
import java.util.Set;

/** Answers that are due at an edge, each under the sentence of the document that names the edge. */
final class Edge {
    private static final Path DOC = Path.of("../shared/DOC.md");
    private static final Set<String> SENTENCES = new LinkedHashSet<>();
    private static String document = null;
    private static String sentence = "";

    private Edge() {
    }

    /** What follows is asked for by this sentence, which must stand in the document word for word. */
    static void says(String words) {
        sentence = words;
        SENTENCES.add(words);
        if (document == null) {
            document = read();
        }
        // Without the document the answers are looked at all the same.
        if (!document.isEmpty()) {
            Due.holds("the document says '" + words + "'", document.contains(words));
        }
    }

    private static String read() {
        try {
            return Files.exists(DOC) ? Files.readString(DOC) : "";
        } catch (IOException e) {
            throw new IllegalStateException(e);
        }
    }

    static void is(String call, long got, long want) {
        Due.is("'" + sentence + "': " + call, got, want);
    }

    static void ends(String test) {
        Due.ends(test + " (" + SENTENCES.size() + " sentences)");
    }

    /** A new object, on which the calls are made. */
    static Script fresh(String... lines) {
        return new Script().on(lines);
    }

    /** A new object with so many wagons, without foals. */
    static Script wagons(int many) {
        Script script = new Script();
        for (int k = 0; k < many; k++) {
            script.on("wagon(0) = " + k);
        }
        return script;
    }
}
