import java.io.IOException;
import java.nio.file.Files;
import java.nio.file.Path;
import java.util.ArrayList;
import java.util.Comparator;
import java.util.List;
import java.util.TreeSet;

/** The sentences of the document that name a boundary case, each with a test of its own. */
final class Sentence {
    private static final Path DOCUMENT = Path.of("..", "shared", "DOC.md");
    private static final String[] CALLS = {"", "A new object", "feed", "end", "clear", "format", "poke", "kind", "fault", "byteAt",
        "items", "letter", "about", "content", "enter", "up", "make", "write", "grow", "cut", "remove", "stamp", "plan", "target",
        "fail", "run"};

    private static final List<String> QUOTED = new ArrayList<>();
    private static final TreeSet<Integer> PROMISES = new TreeSet<>();
    private static String document = null;

    private Sentence() {
    }

    interface Test {
        void look();
    }

    /** A sentence (or the part of it that names the case) that a promise tells, or the terms that it uses. */
    static void holds(int promise, String words, Test test) {
        String title = "promise " + promise + " (" + CALLS[promise] + "): " + words;
        int before = Due.wrong();
        Due.is("the document says: " + title, says(promise, words), true);
        try {
            test.look();
        } catch (RuntimeException | AssertionError e) {
            Due.is("the test of " + title, e.toString(), "nothing thrown");
        }
        if (Due.wrong() != before) {
            System.out.println("DOES NOT HOLD: " + title);
        }
        QUOTED.add(words);
        PROMISES.add(promise);
    }

    /** Every promise has a sentence. */
    static void finish() {
        Due.is("promises with a sentence", PROMISES.size(), CALLS.length - 1);
        System.out.println(QUOTED.size() + " sentences");
        Due.finish();
    }

    private static String read() {
        if (document == null) {
            try {
                document = Files.readString(DOCUMENT).replaceAll("\\s+", " ");
            } catch (IOException e) {
                document = "";
                System.out.println("there is no " + DOCUMENT + ": the quotations are not compared with it");
            }
        }
        return document;
    }

    private static String between(String from, String to) {
        String all = read();
        int begin = all.indexOf(from);
        int end = all.indexOf(to, begin + 1);
        return begin < 0 || end < 0 ? "" : all.substring(begin, end);
    }

    /** Whether the words stand under the promise's own heading, or before the first promise. */
    private static boolean says(int promise, String words) {
        if (read().isEmpty()) {
            return true;
        }
        String next = promise == CALLS.length - 1 ? "## Not promised" : "## Promise " + (promise + 1) + ":";
        return between("## Promise " + promise + ": " + CALLS[promise], next).contains(words)
                || between("## What it is", "## The public face").contains(words)
                || between("## Terms", "## Promise 1:").contains(words);
    }

    /** The document with what no test quotes: what is left must name no boundary case. */
    static void printRest() {
        String rest = between("## Terms", "## Not promised");
        List<String> longestFirst = new ArrayList<>(QUOTED);
        longestFirst.sort(Comparator.comparing(String::length).reversed());
        for (String words : longestFirst) {
            rest = rest.replace(words, " [..] ");
        }
        System.out.println(rest.replace(" ## ", "\n\n## ").replace(" ==== ", "\n\n==== "));
    }
}
