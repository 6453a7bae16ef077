import java.io.IOException;
import java.nio.file.Files;
import java.nio.file.Path;
import java.util.ArrayList;
import java.util.List;
import java.util.regex.Matcher;
import java.util.regex.Pattern;
import java.util.stream.Stream;

/** Each sentence of the document that names an edge stands, word for word, ahead of a test: none is left out. */
public final class SentencesTest {
    private static final Path DOC = Path.of("../shared/DOC.md");
    private static final Pattern SAYS = Pattern.compile("Edge\\.says\\(\"([^\"]*)\"\\)");
    private static final Pattern EDGE = Pattern.compile("\\d+ \\.\\. \\d+|\\b(at most|at least|at first|held within|BAD|FULL|NONE|NOTHING"
        + "|INDEX|SIZE|NO|KIND:|none|wrap|more than|above|below|MISSING|nothing|of several|fewer|beyond|cut|cuts|too|first|last|no|not"
        + "|once|alone|enough|least|most|0)\\b");

    public static void main(String[] args) throws IOException {
        // Without the document there is nothing to compare with.
        if (Files.exists(DOC)) {
            looksAt(Files.readString(DOC));
        } else {
            Due.holds("no document", true);
        }
        Due.ends("SentencesTest");
    }

    private static List<String> sentences() throws IOException {
        List<String> all = new ArrayList<>();
        try (Stream<Path> files = Files.list(Path.of("src/test/java"))) {
            for (Path file : files.filter(f -> f.toString().endsWith("Test.java")).sorted().toList()) {
                Matcher m = SAYS.matcher(Files.readString(file));
                while (m.find()) {
                    all.add(m.group(1));
                }
            }
        }
        return all;
    }

    private static void looksAt(String document) throws IOException {
        boolean[] tested = new boolean[document.length()];
        for (String sentence : sentences()) {
            for (int at = document.indexOf(sentence); at >= 0; at = document.indexOf(sentence, at + 1)) {
                java.util.Arrays.fill(tested, at, at + sentence.length(), true);
            }
        }
        // From the terms to the last promise, but for the code that is only a heading of a promise.
        int end = document.indexOf("## Not promised");
        Matcher edge = EDGE.matcher(document).region(document.indexOf("## Terms"), end < 0 ? document.length() : end);
        int found = 0;
        while (edge.find()) {
            if (!isNumbering(document, edge.start())) {
                found++;
                String about = document.substring(Math.max(0, edge.start() - 40), Math.min(document.length(), edge.end() + 40));
                Due.holds("a test of '.. " + about.replace('\n', ' ') + " ..'", tested[edge.start()]);
            }
        }
        Due.holds("edges were found", found > 200);
    }

    private static boolean isNumbering(String document, int at) {
        int line = document.lastIndexOf('\n', at) + 1;
        return document.startsWith("## Promise", line) || document.startsWith("Ahead of the calls", line);
    }
}
