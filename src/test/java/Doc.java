import java.io.IOException;
import java.nio.file.Files;
import java.nio.file.Path;
import java.util.ArrayList;
import java.util.List;
import java.util.Set;
import java.util.TreeSet;
import java.util.regex.Matcher;
import java.util.regex.Pattern;

/** The document: tests quote the words that they test, so that a sentence without a test is seen. */
final class Doc {
    private static final int PROMISES = 48;
    /** Boundary cases that the terms name. */
    private static final String[] TERMS = {
        "THE TEXT has at most 400 bytes", "N: one digit", "COLUMNS and ROWS, 1 to 5 each", "each at most once",
        "each told at most once", "At most 24 PIPES may be FREE", "BLANKS (9, 10, 32)", "as many small letters as stand there",
        "the first byte with which no such text goes on", "one too long, out of bounds", "a PIPE that there is not",
        "that was told already, at right, down", "a STONE that was told already at its second number",
        "the text's length, if more must come, and where more than 24 PIPES are FREE", "None with one ROW",
        "CHANCE a / b (b 1 to 6, a 0 to b)", "(b 1 to 5)", "0, if it JOINS at once", "none, if it never does",
        "of several the first", "of several the least number", "none, if it cannot be", "a SEED (any int)",
        "in ints that go round", "the latest 16 are kept", "Each is one also where nothing changes",
        "at least half of all CHOICES with k open PIPES; none", "At first the GRID is \"grid 1 1;\"",
    };

    private final String text;
    private final List<String> quotes = new ArrayList<>();

    Doc() {
        try {
            text = Files.readString(Path.of("../shared/DOC.md")).replaceAll("\\s+", " ");
        } catch (IOException e) {
            throw new IllegalStateException("the document cannot be read", e);
        }
    }

    /** What the document says of a promise, behind its heading. */
    private String promise(int n) {
        int from = text.indexOf("## Promise " + n + ":");
        int to = text.indexOf("## ", from + 3);
        String all = text.substring(from, to < 0 ? text.length() : to);
        return all.substring(all.indexOf("`: ") + 3).trim();
    }

    /** What stands in no quote, from the first line down to the promises, but for the face and the headings. */
    String unquotedTerms() {
        String rest = text.substring(text.indexOf("## What it is"), text.indexOf("## Promise 1:"));
        rest = rest.replaceAll("```java .*?```", "").replaceAll("## (What it is|The public face|Terms) ", "");
        List<String> longestFirst = new ArrayList<>(quotes);
        longestFirst.sort((a, b) -> b.length() - a.length());
        for (String quote : longestFirst) rest = rest.replace(quote, "");
        return rest.replaceAll("```text|```", "").trim();
    }

    /** What the face has, as it stands in the document: its constant, its constructor, each method. */
    List<String> face() {
        Matcher block = Pattern.compile("```java (.*?)```").matcher(text);
        if (!block.find()) throw new IllegalStateException("the document has no face");
        List<String> members = new ArrayList<>();
        String body = block.group(1);
        for (String member : body.substring(body.indexOf('{') + 1, body.lastIndexOf('}')).split(";")) {
            if (!member.isBlank()) members.add(member.trim());
        }
        return members;
    }

    boolean says(String words) {
        quotes.add(words);
        return text.contains(words);
    }

    boolean promises(int n, String words) {
        quotes.add(n + " " + words);
        return promise(n).contains(words);
    }

    /** Each sentence of each promise stands in a quote, and so does each boundary case of the terms. */
    void finish(Check check) {
        for (int n = 1; n <= PROMISES; n++) {
            for (String part : promise(n).split("(?<=[.;]) ")) {
                String bare = part.replaceAll("[.;]$", "");
                check.due("promise " + n + ", a test of: " + bare, isQuoted(n + " ", bare), true);
            }
        }
        for (String words : TERMS) check.due("a test of: " + words, isQuoted("", words), true);
    }

    private boolean isQuoted(String head, String words) {
        for (String quote : quotes) if (quote.startsWith(head) && quote.contains(words)) return true;
        return false;
    }

    /** Each call of the face with each exception that it may throw, as "call Exception". */
    Set<String> refusals() {
        Set<String> found = new TreeSet<>();
        Matcher call = Pattern.compile("public \\w+ (\\w+)\\([^)]*\\) throws ([\\w, ]+);").matcher(text);
        while (call.find()) {
            for (String exception : call.group(2).split(", ")) found.add(call.group(1) + " " + exception);
        }
        return found;
    }
}
