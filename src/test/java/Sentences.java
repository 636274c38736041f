import java.io.IOException;
import java.nio.file.Files;
import java.nio.file.Path;
import java.util.LinkedHashMap;
import java.util.Map;
import java.util.regex.Matcher;
import java.util.regex.Pattern;

/**
 * The document's sentences, each with a test of its own: sentence() names the one that the answers behind it are for.
 * A sentence that the document does not have, one that no answer is for, and words that no sentence has, are wrong.
 */
abstract class Sentences {
    static final int MIN = Integer.MIN_VALUE;
    static final int MAX = Integer.MAX_VALUE;
    static final String TEN = "unit or unit or unit or unit or unit or unit or unit or unit or unit or unit";

    private static final Map<String, String> TEXTS = new LinkedHashMap<>();
    private static final Map<String, boolean[]> SEEN = new LinkedHashMap<>();
    private static String now = "";
    private static int answers = 1;
    private static int sentences = 0;

    static void readDocument() throws IOException {
        String doc = Files.readString(Path.of("../shared/DOC.md"));
        Matcher promise = Pattern.compile("(?ms)^## Promise (\\d+): [^\n]*\n(.*?)(?=^## )").matcher(doc);
        while (promise.find()) {
            keep(promise.group(1), promise.group(2).replaceFirst("`[^`]*`:", ""));
        }
        String terms = doc.substring(doc.indexOf("## Terms"), doc.indexOf("## Promise 1:"));
        Matcher term = Pattern.compile("(?ms)^([IV]+)\\. (.*?)(?=^[IV]+\\. |\\z)").matcher(terms);
        while (term.find()) {
            keep(term.group(1), term.group(2).replace("```text", "").replace("```", ""));
        }
        keep("What it is", doc.substring(doc.indexOf("An object is used"), doc.indexOf("## The public face")));
        Kit.due("promises and terms read in the document", TEXTS.size(), 48 + 7 + 1);
    }

    private static void keep(String section, String text) {
        TEXTS.put(section, text.replaceAll("\\s+", " ").trim());
        SEEN.put(section, new boolean[TEXTS.get(section).length()]);
    }

    /** From here on answers are for this sentence, of a promise (1 .. 48) or of the Terms (I .. VII). */
    static void sentence(String section, String words) {
        Kit.holds("an answer is looked at for " + now, answers > 0);
        now = (Character.isDigit(section.charAt(0)) ? "promise " : "") + section + ", \"" + words + "\"";
        answers = 0;
        sentences++;
        String text = TEXTS.getOrDefault(section, "");
        int at = text.indexOf(words);
        Kit.holds("the document has " + now, at >= 0);
        for (; at >= 0; at = text.indexOf(words, at + 1)) {
            java.util.Arrays.fill(SEEN.get(section), at, at + words.length(), true);
        }
    }

    static void due(String call, long got, long want) {
        answers++;
        Kit.due(now + ": " + call, got, want);
    }

    static void holds(String what, boolean so) {
        due(what, so ? 1 : 0, 1);
    }

    /** A grammar is refused, by this FAULT at this place. */
    static void faulty(String text, int number, int place) {
        GrownKinds x = new GrownKinds();
        due("grammar() of " + text, Kit.grammar(x, text), -4);
        due("fault(0) of " + text, x.fault(0), number);
        due("fault(1) of " + text, x.fault(1), place);
    }

    /** A grammar is taken. */
    static GrownKinds sound(String text, int lines) {
        GrownKinds x = new GrownKinds();
        due("grammar() of " + text, Kit.grammar(x, text), lines);
        due("fault(0) of " + text, x.fault(0), 0);
        return x;
    }

    /** All THINGS of a size, in ORDER, as they are spelled. */
    static void spelled(GrownKinds x, int kind, int n, String... texts) {
        due("things(" + kind + ", " + n + ")", x.things(kind, n), texts.length);
        for (int rank = 0; rank < texts.length; rank++) {
            String got = Kit.spelled(x, kind, n, rank);
            holds(kind + ", " + n + ", " + rank + " is spelled " + got + ", due is " + texts[rank], got.equals(texts[rank]));
        }
    }

    static void finishSentences() {
        Kit.holds("an answer is looked at for " + now, answers > 0);
        for (Map.Entry<String, String> one : TEXTS.entrySet()) {
            StringBuilder missing = new StringBuilder();
            for (int i = 0; i < one.getValue().length(); i++) {
                char c = one.getValue().charAt(i);
                boolean open = !SEEN.get(one.getKey())[i] && Character.isLetterOrDigit(c);
                missing.append(open ? c : missing.length() > 0 && missing.charAt(missing.length() - 1) != ' ' ? ' ' : "");
            }
            Kit.holds("no sentence of " + one.getKey() + " has the words: " + missing, missing.length() == 0);
        }
        System.out.println(sentences + " sentences");
    }
}
