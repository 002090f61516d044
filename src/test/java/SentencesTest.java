import java.io.File;
import java.nio.charset.StandardCharsets;
import java.nio.file.Files;
import java.util.ArrayList;
import java.util.Arrays;
import java.util.LinkedHashMap;
import java.util.List;
import java.util.Map;

/**
 * The document sentence by sentence: each quote of it in src/test/sentences has a run
 * of calls of its own, and each word of the Terms and promises must be quoted.
 */
public final class SentencesTest {
    private final Doc doc;
    private final Map<String, String> lets = new LinkedHashMap<>();
    private final List<String> wrongs = new ArrayList<>();
    private int runs = 0;
    private String part = "";
    private String where = "";
    private Script script = null;

    private SentencesTest(Doc doc) {
        this.doc = doc;
    }

    public static void main(String[] args) throws Exception {
        SentencesTest test = new SentencesTest(Doc.read("../shared/DOC.md"));
        File[] files = new File("src/test/sentences").listFiles((dir, name) -> name.endsWith(".txt"));
        Arrays.sort(files);
        for (File file : files) {
            test.read(file);
        }
        test.must("the document has 5 Terms and 55 promises", test.doc.parts() == 60);
        for (String left : test.doc.left()) {
            test.must("no test has " + left, false);
        }
        test.wrongs.forEach(System.out::println);
        System.out.println("SentencesTest: " + test.runs + " sentences, " + test.wrongs.size() + " wrong");
        if (!test.wrongs.isEmpty()) {
            System.exit(1);
        }
    }

    private void read(File file) throws Exception {
        int number = 0;
        for (String raw : Files.readAllLines(file.toPath(), StandardCharsets.US_ASCII)) {
            number++;
            where = file.getName() + ":" + number;
            String line = raw.strip();
            if (line.isEmpty() || line.startsWith("--")) {
                continue;
            }
            if (line.startsWith("## ")) {
                endScript();
                part = line.substring(3);
            } else if (line.startsWith("> ")) {
                quote(line.substring(2).strip());
            } else if (line.startsWith("let ")) {
                int by = line.indexOf('=');
                lets.put(line.substring(4, by).strip(), line.substring(by + 1).strip());
            } else {
                step(line);
            }
        }
        endScript();
    }

    private void quote(String quote) {
        endScript();
        must("the document does not say: " + quote, doc.quote(part, quote));
        script = new Script();
        runs++;
    }

    private void step(String line) {
        String told = line;
        for (Map.Entry<String, String> let : lets.entrySet()) {
            told = told.replace("$" + let.getKey() + "$", let.getValue());
        }
        must("a call without a quote", script != null);
        if (script != null) {
            script.run(told);
            drain();
        }
    }

    private void endScript() {
        if (script != null) {
            script.end();
            drain();
        }
        script = null;
    }

    private void drain() {
        script.wrongs().forEach(wrong -> must(wrong, false));
        script.wrongs().clear();
    }

    private void must(String what, boolean holds) {
        if (!holds) {
            wrongs.add(where + " (" + part + ") " + what);
        }
    }
}
