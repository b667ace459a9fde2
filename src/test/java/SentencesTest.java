import java.io.IOException;
import java.nio.file.Files;
import java.nio.file.Path;
import java.util.ArrayList;
import java.util.List;

/**
 * Every sentence of the document has a test: src/test/SENTENCES.md quotes the whole document, sentence by sentence, with
 * the methods that hold each of them. Here it is looked at that none is left out, and that those methods are run.
 */
public final class SentencesTest {
    private static final Path INDEX = Path.of("src/test/SENTENCES.md");
    private static final Path DOCUMENT = Path.of("../shared/DOC.md");

    /** A sentence, and the lines below it: a class and its methods, or "free". */
    record Entry(StringBuilder quote, List<String> holders) {
    }

    public static void main(String[] args) throws IOException {
        List<Entry> entries = read();
        Check.isTrue("there are sentences", entries.size() > 34);
        theWholeDocument(entries);
        eachHasATest(entries);
        Check.end();
    }

    private static List<Entry> read() throws IOException {
        List<Entry> entries = new ArrayList<>();
        boolean quoting = false;
        for (String line : Files.readAllLines(INDEX)) {
            if (line.startsWith(">")) {
                if (!quoting) {
                    entries.add(new Entry(new StringBuilder(), new ArrayList<>()));
                }
                entries.get(entries.size() - 1).quote().append(line.substring(1)).append(' ');
                quoting = true;
                continue;
            }
            quoting = false;
            boolean prose = line.isBlank() || line.startsWith("#") || entries.isEmpty();
            if (!prose) {
                entries.get(entries.size() - 1).holders().add(line.trim());
            }
        }
        return entries;
    }

    private static String inOneLine(String text) {
        return text.replaceAll("\\s+", " ").trim();
    }

    /** Headings and the marks of code blocks are no sentences. */
    private static String sentences(List<String> lines) {
        StringBuilder all = new StringBuilder();
        for (String line : lines) {
            if (!line.startsWith("#") && !line.startsWith("```")) {
                all.append(line).append(' ');
            }
        }
        return inOneLine(all.toString());
    }

    private static void theWholeDocument(List<Entry> entries) throws IOException {
        String document = sentences(Files.readAllLines(DOCUMENT));
        int from = 0;
        for (Entry entry : entries) {
            String quote = inOneLine(entry.quote().toString());
            boolean next = document.startsWith(quote, from);
            Check.isTrue("the document goes on with: " + quote, next);
            if (!next) {
                return;
            }
            from += quote.length();
            while (from < document.length() && document.charAt(from) == ' ') {
                from++;
            }
        }
        Check.isTrue("no sentence is left out: " + document.substring(from), from == document.length());
    }

    private static void eachHasATest(List<Entry> entries) throws IOException {
        for (Entry entry : entries) {
            String quote = inOneLine(entry.quote().toString());
            Check.isTrue("a test holds: " + quote, !entry.holders().isEmpty());
            for (String holder : entry.holders()) {
                if (!holder.equals("free")) {
                    areRun(holder);
                }
            }
        }
    }

    /** Each method is called by main, and is there, since the class compiles. */
    private static void areRun(String holder) throws IOException {
        String[] parts = holder.split(":");
        Check.isTrue("a class and its methods: " + holder, parts.length == 2);
        if (parts.length != 2) {
            return;
        }
        Path file = Path.of("src/test/java/" + parts[0] + ".java");
        Check.isTrue("there is " + file, Files.exists(file));
        if (!Files.exists(file)) {
            return;
        }
        String source = Files.readString(file);
        int from = source.indexOf("public static void main(");
        String main = from < 0 ? "" : source.substring(from, source.indexOf("\n    }", from));
        for (String method : parts[1].split(",")) {
            Check.isTrue(parts[0] + " runs " + method.trim(), main.contains("\n        " + method.trim() + "();"));
        }
    }
}
