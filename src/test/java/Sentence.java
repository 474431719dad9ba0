import java.io.IOException;
import java.nio.file.Files;
import java.nio.file.Path;
import java.util.ArrayList;
import java.util.List;
import java.util.Map;
import java.util.Set;
import java.util.TreeMap;

/**
 * The sentence of the document that a test holds the class to. The document is read and cut at its
 * full stops and semicolons; a test that quotes what does not stand there fails, and so does a
 * sentence that no test quotes. Where there is no document, the answers alone are compared.
 */
final class Sentence {
    /** Where the terms stand, ahead of the promises. */
    static final int TERMS = 0;
    /** Sentences that leave something free, or tell of the text of the interface alone. */
    private static final Set<String> FREE = Set.of("what later calls answer is free");
    private static final Map<Integer, Map<String, Integer>> DOCUMENT = read(Path.of("../shared/DOC.md"));

    private static String name = "";
    private static int tests = 0, answers = 0, wrong = 0;

    private Sentence() { }

    /** Begins a test. Words are a sentence of that promise, or what stands in one of them alone. */
    static void of(int promise, String words) {
        tests++;
        name = (promise == TERMS ? "Terms" : "Promise " + promise) + ", \"" + words + "\": ";
        if (DOCUMENT.isEmpty()) {
            return;
        }
        Map<String, Integer> told = DOCUMENT.getOrDefault(promise, Map.of());
        List<String> meant = new ArrayList<>();
        for (String sentence : told.keySet()) {
            if (sentence.equals(words)) {
                meant = List.of(sentence);
                break;
            }
            if (sentence.contains(words)) {
                meant.add(sentence);
            }
        }
        if (meant.size() != 1) {
            wrong++;
            System.out.println(name + "stands in " + meant.size() + " sentences of the document");
            return;
        }
        told.merge(meant.get(0), 1, Integer::sum);
    }

    static void due(String call, long got, long want) {
        answers++;
        if (got != want) {
            wrong++;
            System.out.println(name + call + " answered " + got + ", due is " + want);
        }
    }

    /** A fraction, whose parts are got one by one. */
    static void due(String call, long above, long below, long wantAbove, long wantBelow) {
        due(call + ", above,", above, wantAbove);
        due(call + ", below,", below, wantBelow);
    }

    static void end() {
        int sentences = 0;
        for (int promise : DOCUMENT.keySet()) {
            for (Map.Entry<String, Integer> told : DOCUMENT.get(promise).entrySet()) {
                sentences++;
                if (told.getValue() == 0) {
                    wrong++;
                    System.out.println("no test quotes promise " + promise + ", \"" + told.getKey() + "\"");
                }
            }
        }
        if (!DOCUMENT.isEmpty() && DOCUMENT.size() != 36) {
            wrong++;
            System.out.println("the document has " + DOCUMENT.size() + " parts, not terms and 35 promises");
        }
        System.out.println(sentences + " sentences, " + tests + " tests, " + answers + " answers, " + wrong + " wrong");
        if (wrong != 0) {
            System.exit(1);
        }
    }

    private static Map<Integer, Map<String, Integer>> read(Path path) {
        Map<Integer, Map<String, Integer>> document = new TreeMap<>();
        int promise = -1;
        for (String line : lines(path)) {
            if (line.startsWith("## ")) {
                promise = part(line);
            } else if (promise >= 0 && !line.startsWith("```") && !line.startsWith("Ahead of the calls")) {
                String words = line.replaceFirst("^.*?======== \\d ", "").replaceFirst("^`.*?`: ", "").trim();
                boolean isTitle = line.startsWith("Least material") && words.startsWith("Least material");
                for (String sentence : isTitle ? List.<String>of() : sentences(words)) {
                    if (!FREE.contains(sentence)) {
                        document.computeIfAbsent(promise, p -> new TreeMap<>()).put(sentence, 0);
                    }
                }
            }
        }
        return document;
    }

    private static List<String> lines(Path path) {
        try {
            return Files.readAllLines(path);
        } catch (IOException e) {
            System.out.println("no document at " + path + ": quotes are not compared with it");
            return List.of();
        }
    }

    private static int part(String heading) {
        if (heading.startsWith("## What it is") || heading.startsWith("## Terms")) {
            return TERMS;
        }
        return heading.startsWith("## Promise ") ? Integer.parseInt(heading.substring(11, heading.indexOf(':'))) : -1;
    }

    /** Cuts at full stops and semicolons, but for those within brackets, and for two stops in a row. */
    private static List<String> sentences(String words) {
        List<String> list = new ArrayList<>();
        int depth = 0, start = 0;
        for (int i = 0; i < words.length(); i++) {
            char c = words.charAt(i);
            depth += c == '(' ? 1 : c == ')' ? -1 : 0;
            boolean last = i + 1 == words.length() || words.charAt(i + 1) == ' ';
            boolean stop = c == ';' || c == '.' && i > 0 && words.charAt(i - 1) != '.';
            if (depth == 0 && last && stop) {
                list.add(words.substring(start, i).trim());
                start = i + 1;
            }
        }
        if (!words.substring(start).isBlank()) {
            list.add(words.substring(start).trim());
        }
        return list;
    }
}
