import java.io.IOException;
import java.nio.file.Files;
import java.nio.file.Path;
import java.util.ArrayList;
import java.util.LinkedHashMap;
import java.util.List;
import java.util.Map;
import java.util.function.IntUnaryOperator;

/** Answers that are looked at under the sentence of the document that asks for them; no sentence may be left out. */
final class Sentences {
    // What nobody has quoted of each section, yet.
    private final Map<String, String> unquoted = new LinkedHashMap<>();
    private final List<String> faults = new ArrayList<>();
    private final boolean compared;
    private String section = "";
    private String sentence = "";
    private int answers = 0;
    private int allAnswers = 0;
    private int tested = 0;

    /** Takes the sections whose headings begin with one of these. */
    Sentences(String... headings) {
        String document = read(Path.of("../shared/DOC.md"));
        compared = !document.isEmpty();
        for (String part : document.split("(?m)^##+ ")) {
            String heading = part.substring(0, Math.max(0, part.indexOf('\n')));
            for (String begin : headings) {
                if (heading.startsWith(begin)) unquoted.put(heading, plain(part.substring(heading.length())));
            }
        }
    }

    /** The answers can be looked at without the document, too. */
    private static String read(Path path) {
        try {
            return Files.readString(path);
        } catch (IOException e) {
            System.out.println("no sentence is compared with the document: " + e);
            return "";
        }
    }

    private static String plain(String text) {
        return text.replaceAll("(?m)^```.*$", "").replaceAll("\\s+", " ");
    }

    void section(String heading) {
        closeSentence();
        sentence = "";
        section = heading;
        if (compared && !unquoted.containsKey(heading)) faults.add("no such section: " + heading);
    }

    /** Opens the test of a sentence of the section. */
    void says(String quote) {
        closeSentence();
        takeOut(quote);
        sentence = quote;
        tested++;
    }

    /** A sentence on which no answer of its own depends. */
    void alsoSays(String quote) {
        takeOut(quote);
    }

    private void takeOut(String quote) {
        String text = unquoted.getOrDefault(section, "");
        int at = text.indexOf(quote);
        if (at < 0) {
            if (compared) faults.add("\"" + section + "\" does not say: " + quote);
            return;
        }
        unquoted.put(section, text.substring(0, at) + "|" + text.substring(at + quote.length()));
    }

    private void closeSentence() {
        if (!sentence.isEmpty() && answers == 0) faults.add("no answer looked at for: " + sentence);
        answers = 0;
    }

    void due(String what, long is, long due) {
        due(what, "" + is, "" + due);
    }

    void due(String what, String is, String due) {
        answers++;
        allAnswers++;
        if (!is.equals(due)) {
            faults.add("\"" + section + "\", \"" + sentence + "\": " + what + " answered " + is + ", due is " + due);
        }
    }

    /** An argument is taken from the least to the most, and refused outside. */
    void range(String what, IntUnaryOperator call, int least, int most) {
        for (int value : new int[] {least - 1, most + 1, Integer.MIN_VALUE, Integer.MAX_VALUE}) {
            if (value < least || value > most) due(what + " " + value, call.applyAsInt(value), SmudgeTally.INVALID_ARGUMENT);
        }
        for (int value : new int[] {least, most}) {
            int answer = call.applyAsInt(value);
            due(what + " " + value + " is taken", answer == SmudgeTally.INVALID_ARGUMENT ? 0 : 1, 1);
        }
    }

    void end() {
        closeSentence();
        for (Map.Entry<String, String> left : unquoted.entrySet()) {
            for (String part : left.getValue().split("\\|")) {
                String rest = part.replaceAll("^[\\s,;.-]+|[\\s,;.-]+$", "");
                if (!rest.isEmpty()) faults.add("no test quotes this of \"" + left.getKey() + "\": " + rest);
            }
        }
        for (String fault : faults) System.out.println(fault);
        System.out.println(tested + " sentences, " + allAnswers + " answers, " + faults.size() + " faults");
        if (!faults.isEmpty()) System.exit(1);
    }
}
