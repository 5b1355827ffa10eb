import java.io.IOException;
import java.nio.file.Files;
import java.nio.file.Path;
import java.util.ArrayList;
import java.util.LinkedHashMap;
import java.util.List;
import java.util.Map;

/**
 * The sentences of the document and the tests at their boundaries. Each test names the promise and
 * the sentence, which must stand in the document; in the end every sentence must have been named.
 */
final class Edge {
    private static final Path DOCUMENT = Path.of("../shared/DOC.md");
    private static final int PROMISES = 45;
    /** What stands there, but says nothing that a call could be held to. */
    private static final List<String> NO_CASES = List.of("Map.", "Parcels.", "Levels.", "Lines of a level.",
            "Parcels of a level.", "Labels of a level.", "More precisely.", "Text.", "History.", "Exceptions.",
            "The constructor and the methods follow, a promise each: the signature, then what it does.",
            "what later calls answer is free.");

    /** The sentences by the number of their promise, 0 for the description, each with whether it was named. */
    private static final Map<Integer, Map<String, Boolean>> SENTENCES = readDocument();
    private static String label = "";
    private static int checks = 1;

    private Edge() {
    }

    private static Map<Integer, Map<String, Boolean>> readDocument() {
        String document;
        try {
            document = Files.readString(DOCUMENT);
        } catch (IOException e) {
            throw new AssertionError(e);
        }
        Map<Integer, Map<String, Boolean>> sentences = new LinkedHashMap<>();
        sentences.put(0, sentencesOf(between(document, "An object is used", "## The public face")));
        sentences.get(0).putAll(sentencesOf(between(document, "## Description", "## Promise 1:")));
        sentences.get(0).keySet().removeAll(NO_CASES);
        for (int promise = 1; promise <= PROMISES; promise++) {
            String next = promise == PROMISES ? "## Not promised" : "## Promise " + (promise + 1) + ":";
            sentences.put(promise, sentencesOf(between(document, "## Promise " + promise + ":", next)));
        }
        return sentences;
    }

    private static String between(String document, String start, String end) {
        return document.substring(document.indexOf(start), document.indexOf(end));
    }

    /** The parts of a section that end with a stop or a semicolon, and the lines about arguments. */
    private static Map<String, Boolean> sentencesOf(String section) {
        Map<String, Boolean> sentences = new LinkedHashMap<>();
        for (String paragraph : section.split("\n\n|\n(?=- )")) {
            boolean isHeading = paragraph.startsWith("#") || paragraph.startsWith("----")
                    || paragraph.startsWith("`");
            for (String sentence : paragraph.split("(?<=[.;])\\s")) {
                String line = String.join(" ", sentence.trim().split("\\s+"));
                if (!isHeading && !line.isEmpty()) {
                    sentences.put(line, false);
                }
            }
        }
        return sentences;
    }

    /** Begins a test of a sentence, or of a part of it, for a promise. */
    static void says(int promise, String sentence) {
        if (checks == 0) {
            Check.due(label + " is tested", true, false);
        }
        checks = 0;
        label = promise + ", " + sentence + ": ";
        boolean isThere = false;
        for (int section : new int[] {0, promise}) {
            for (Map.Entry<String, Boolean> one : SENTENCES.get(section).entrySet()) {
                if (one.getKey().contains(sentence)) {
                    one.setValue(true);
                    isThere = true;
                }
            }
        }
        Check.due(label + "the document says so", true, isThere);
    }

    static void due(String what, Object want, Object got) {
        checks++;
        Check.due(label + what, want, got);
    }

    /** Makes the calls of the rows, "call = answer", one after the other on an object. */
    static void on(MapGeneralizer map, String... rows) {
        for (String row : rows) {
            int at = row.lastIndexOf(" = ");
            String call = row.substring(0, at);
            due(call, row.substring(at + 3), Calls.answer(map, call));
        }
    }

    /** The same on a new object. */
    static void onNew(String... rows) {
        on(new MapGeneralizer(), rows);
    }

    /** A new object on which calls were made, none of which may be refused. */
    static MapGeneralizer made(String... calls) {
        MapGeneralizer map = new MapGeneralizer();
        make(map, calls);
        return map;
    }

    static void make(MapGeneralizer map, String... calls) {
        for (String call : calls) {
            String answer = Calls.answer(map, call);
            if (answer.startsWith("!")) {
                Check.due(label + call + " prepares", "no exception", answer);
            }
        }
    }

    /** Every sentence of the document must have been named by a test. */
    static void finish() {
        says(1, "Creates a map without lines, points and parcels.");
        onNew("count(0) = 0");
        List<String> missing = new ArrayList<>();
        SENTENCES.forEach((promise, sentences) -> sentences.forEach((sentence, isNamed) -> {
            if (!isNamed) {
                missing.add(promise + ", " + sentence);
            }
        }));
        Check.due("sentences without a test", "", String.join("\n", missing));
        Check.finish();
    }
}
