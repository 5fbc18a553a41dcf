import java.io.IOException;
import java.nio.file.Files;
import java.nio.file.Path;
import java.util.ArrayList;
import java.util.List;
import java.util.regex.Matcher;
import java.util.regex.Pattern;
import java.util.stream.Stream;

/**
 * The tests quote, in the comment above a method, the words of the document that the method looks at. Here every quotation
 * is found in the document, and no word of what it is, of its terms and of its promises is left without one.
 */
public final class SentencesTest {
    private static final Path DOCUMENT = Path.of("../shared/DOC.md"), TESTS = Path.of("src/test/java");
    private static final Pattern COMMENT = Pattern.compile("(?s)/\\*\\*(.*?)\\*/");
    // A quotation of a single word is a name, not a sentence.
    private static final Pattern QUOTED = Pattern.compile("\"([^\"]* [^\"]*)\"");

    public static void main(String[] args) throws IOException {
        String document = Files.readString(DOCUMENT);
        String whole = oneLine(document);
        String text = promised(document);
        boolean[] covered = new boolean[text.length()];
        int wrong = 0;
        List<String> quotations = quotations();
        for (String quoted : quotations) {
            cover(text, quoted, covered);
            if (!whole.contains(quoted) && !text.contains(quoted)) {
                wrong++;
                System.out.println("not in the document: " + quoted);
            }
        }
        for (String rest : uncovered(text, covered)) {
            wrong++;
            System.out.println("no test quotes: " + rest);
        }
        System.out.println("SentencesTest: " + quotations.size() + " quotations, " + wrong + " faults");
        if (wrong != 0) {
            System.exit(1);
        }
    }

    /** What it is, the terms and the promises, without headings and heads of methods, in one line. FaceTest has the face. */
    private static String promised(String document) {
        String text = document.substring(document.indexOf("## What it is"), document.indexOf("## Not promised"));
        String face = text.substring(text.indexOf("## The public face"), text.indexOf("## Terms"));
        return oneLine(text.replace(face, "").replaceAll("(?m)^(#|```).*$", "").replaceAll("`[^`]*`:", ""));
    }

    private static String oneLine(String text) {
        return text.replaceAll("\\s+", " ").trim();
    }

    private static List<String> quotations() throws IOException {
        List<String> found = new ArrayList<>();
        List<Path> files;
        try (Stream<Path> all = Files.list(TESTS)) {
            files = all.filter(file -> file.toString().endsWith("Test.java")).sorted().toList();
        }
        for (Path file : files) {
            Matcher comment = COMMENT.matcher(Files.readString(file));
            while (comment.find()) {
                Matcher quoted = QUOTED.matcher(oneLine(comment.group(1).replaceAll("(?m)^ *\\* ", " ")));
                while (quoted.find()) {
                    found.add(quoted.group(1));
                }
            }
        }
        return found;
    }

    private static void cover(String text, String quoted, boolean[] covered) {
        for (int from = text.indexOf(quoted); from >= 0; from = text.indexOf(quoted, from + 1)) {
            for (int i = from; i < from + quoted.length(); i++) {
                covered[i] = true;
            }
        }
    }

    private static List<String> uncovered(String text, boolean[] covered) {
        List<String> found = new ArrayList<>();
        StringBuilder rest = new StringBuilder();
        for (int i = 0; i <= text.length(); i++) {
            if (i < text.length() && !covered[i]) {
                rest.append(text.charAt(i));
            } else {
                if (rest.chars().anyMatch(Character::isLetterOrDigit)) {
                    found.add(rest.toString().trim());
                }
                rest.setLength(0);
            }
        }
        return found;
    }
}
