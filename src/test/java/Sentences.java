import java.io.IOException;
import java.nio.file.DirectoryStream;
import java.nio.file.Files;
import java.nio.file.Path;
import java.util.ArrayList;
import java.util.List;
import java.util.regex.Matcher;
import java.util.regex.Pattern;

/**
 * No test, but a look at them: tells which words of the document's terms and
 * promises no test quotes, and which quotes are not the document's words.
 *
 * Arguments: the document and the folder of the tests.
 */
public final class Sentences {
    private static final Pattern QUOTE = Pattern.compile("\\.sentence\\(((?:\\s*\\+?\\s*\"(?:[^\"\\\\]|\\\\.)*\")+)\\s*\\)");
    private static final Pattern PART = Pattern.compile("\"((?:[^\"\\\\]|\\\\.)*)\"");

    private Sentences() {
    }

    public static void main(String[] args) throws IOException {
        String document = plain(Files.readString(Path.of(args[0])));
        boolean[] quoted = new boolean[document.length()];
        int strange = 0;
        for (String quote : quotes(Path.of(args[1]))) {
            int at = document.indexOf(plain(quote));
            if (at < 0) {
                strange++;
                System.out.println("not in the document: " + quote);
            }
            for (; at >= 0; at = document.indexOf(plain(quote), at + 1)) {
                for (int i = at; i < at + plain(quote).length(); i++) quoted[i] = true;
            }
        }
        System.out.println("words that no test quotes:");
        int end = document.indexOf("## Not promised");
        for (int i = document.indexOf("## Terms"); i < end; i++) {
            if (quoted[i]) continue;
            int from = i;
            while (i < end && !quoted[i]) i++;
            String words = document.substring(from, i).trim();
            if (words.length() > 2) System.out.println("  " + words);
        }
        if (strange > 0) System.exit(1);
    }

    /** Without fences and line ends, so that sentences that go over lines are found. */
    private static String plain(String text) {
        return text.replace("```text", " ").replace("```java", " ").replace("```", " ").replaceAll("\\s+", " ");
    }

    private static List<String> quotes(Path folder) throws IOException {
        List<String> found = new ArrayList<>();
        try (DirectoryStream<Path> files = Files.newDirectoryStream(folder, "*Test.java")) {
            for (Path file : files) {
                Matcher matcher = QUOTE.matcher(Files.readString(file));
                while (matcher.find()) {
                    StringBuilder whole = new StringBuilder();
                    Matcher part = PART.matcher(matcher.group(1));
                    while (part.find()) whole.append(part.group(1));
                    found.add(whole.toString());
                }
            }
        }
        return found;
    }
}
