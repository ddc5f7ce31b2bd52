import java.io.IOException;
import java.nio.file.Files;
import java.nio.file.Path;
import java.util.ArrayList;
import java.util.Arrays;
import java.util.List;
import java.util.regex.Matcher;
import java.util.regex.Pattern;
import java.util.stream.Collectors;
import java.util.stream.Stream;

/** Whether the bound tests leave out none of the document's sentences: each word stands in one that a test says. */
public final class SentencesTest extends Bounds {
    private static final Pattern SAYS = Pattern.compile("says\\((\\d+),\\s*\"([^\"]*)\"(?:\\s*\\+ \"([^\"]*)\")?\\)");

    public static void main(String[] args) throws IOException {
        List<int[]> promises = new ArrayList<>();
        List<String> sentences = new ArrayList<>();
        try (Stream<Path> files = Files.list(Path.of("src/test/java"))) {
            for (Path file : files.filter(f -> f.toString().endsWith("BoundsTest.java")).collect(Collectors.toList())) {
                gather(Files.readString(file), promises, sentences);
            }
        }
        int left = 0;
        for (int promise = 1; promise <= 29; promise++) {
            left += leftOut("promise " + promise, DocText.ofPromise(promise), sentences);
            left += namesOf(promise, promises) > 0 ? 0 : 1;
        }
        left += leftOut("Terms", DocText.terms(), sentences);
        System.out.println("SentencesTest: " + sentences.size() + " sentences are said, " + left + " left out");
        if (left != 0 || sentences.isEmpty()) {
            System.exit(1);
        }
    }

    private static void gather(String source, List<int[]> promises, List<String> sentences) {
        Matcher m = SAYS.matcher(source);
        while (m.find()) {
            promises.add(new int[] {Integer.parseInt(m.group(1))});
            sentences.add(m.group(2) + (m.group(3) == null ? "" : m.group(3)));
        }
    }

    private static int namesOf(int promise, List<int[]> promises) {
        int count = 0;
        for (int[] p : promises) {
            count += p[0] == promise ? 1 : 0;
        }
        if (count == 0) {
            System.out.println("no test names promise " + promise);
        }
        return count;
    }

    /** Headings, the calls' faces and where the interface says something are no sentences. */
    private static int leftOut(String where, String part, List<String> sentences) {
        String text = part.replaceAll("(?m)^#.*$", "").replaceAll("(?m)^Ahead of the calls.*$", "").replaceAll("`[^`]*`", "")
            .replaceAll("(?m)^==== \\d ", "");
        char[] rest = text.toCharArray();
        for (String sentence : sentences) {
            for (int at = text.indexOf(sentence); at >= 0; at = text.indexOf(sentence, at + 1)) {
                Arrays.fill(rest, at, at + sentence.length(), '\n');
            }
        }
        int count = 0;
        for (String piece : new String(rest).split("\n+")) {
            if (piece.matches(".*\\w.*")) {
                count++;
                System.out.println(where + ": no test says '" + piece.trim() + "'");
            }
        }
        return count;
    }
}
