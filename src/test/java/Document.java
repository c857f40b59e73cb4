import java.io.IOException;
import java.nio.file.Files;
import java.nio.file.Path;
import java.util.ArrayList;
import java.util.List;
import java.util.regex.Matcher;
import java.util.regex.Pattern;

/** The document's words: what a test quotes must stand there, and what no test quotes can be told. */
final class Document {
    static final int TERMS = 0, ABOUT = -1;
    private final String text;
    private final boolean[] quoted;

    private Document(String text) {
        this.text = text;
        this.quoted = new boolean[text.length()];
    }

    /** The document; null where it is not at hand: the calls can be tested without it, the quotes can't. */
    static Document read() throws IOException {
        Path path = Path.of("../shared/DOC.md");
        if (!Files.exists(path)) {
            System.out.println("no " + path + ": quotes are not looked up");
            return null;
        }
        return new Document(Files.readString(path).replaceAll("\\s+", " "));
    }

    private static String heading(int section) {
        return section == ABOUT ? "## What it is " : section == TERMS ? "## Terms " : "## Promise " + section + ":";
    }

    private int startOf(int section) {
        return text.indexOf(heading(section));
    }

    private int endOf(int section) {
        int end = text.indexOf(" ## ", startOf(section));
        return end < 0 ? text.length() : end;
    }

    /** Whether the words stand in a section (a promise's number, TERMS, ABOUT): they are quoted now. */
    boolean quote(int section, String words) {
        int start = startOf(section);
        int at = start < 0 ? -1 : text.indexOf(words, start);
        if (at < 0 || at + words.length() > endOf(section)) {
            return false;
        }
        for (int i = at; i < at + words.length(); i++) {
            quoted[i] = true;
        }
        return true;
    }

    /** What of a section is as told, and quoted by no test. */
    List<String> notQuoted(int section, Pattern words) {
        List<String> bare = new ArrayList<>();
        Matcher m = words.matcher(text).region(startOf(section), endOf(section));
        while (m.find()) {
            if (!quoted[m.start()] || !quoted[m.end() - 1]) {
                bare.add(text.substring(Math.max(m.start() - 30, 0), Math.min(m.end() + 30, text.length())));
            }
        }
        return bare;
    }
}
