import java.util.ArrayList;
import java.util.List;
import java.util.Set;
import java.util.TreeSet;

/** For each sentence that names a boundary case a test of its own; and each sentence of the document has one. */
public final class BoundariesTest extends Bounds {
    public static void main(String[] args) {
        BoundsTexts.all();
        BoundsNets.all();
        BoundsLaying.all();
        BoundsPressing.all();
        BoundsCutting.all();
        BoundsShapes.all();
        BoundsChecks.all();
        BoundsRest.all();
        int missing = document().isEmpty() ? 0 : missingSentences();
        int wrong = wrongAnswers() + missing;
        System.out.println(wrong == 0 ? ALL.size() + " boundary cases are as due" : wrong + " answers are not as due");
        if (wrong != 0) {
            System.exit(1);
        }
    }

    /** Sentences of the promises and the terms that no test quotes. */
    private static int missingSentences() {
        Set<String> open = new TreeSet<>();
        for (int promise = 1; promise <= 43; promise++) {
            for (String sentence : sentences(promiseText(promise))) {
                if (!isQuoted(sentence, promise)) {
                    open.add("promise " + promise + ": " + sentence);
                }
            }
        }
        for (String sentence : sentences(terms())) {
            if (!isQuoted(sentence, 0)) {
                open.add("terms: " + sentence);
            }
        }
        for (String sentence : open) {
            System.out.println("no test quotes " + sentence);
        }
        return open.size();
    }

    /** The parts of a text between full stops, colons and semicolons that stand in no brackets. */
    private static List<String> sentences(String text) {
        List<String> all = new ArrayList<>();
        int depth = 0;
        int from = 0;
        for (int i = 0; i < text.length(); i++) {
            char sign = text.charAt(i);
            depth += sign == '(' ? 1 : sign == ')' ? -1 : 0;
            boolean behind = i + 1 == text.length() || text.charAt(i + 1) == ' ';
            boolean dots = i > 0 && (text.charAt(i - 1) == '.' || text.charAt(i - 1) == ' ');
            if (depth == 0 && behind && (sign == ';' || sign == '.' && !dots)) {
                all.add(text.substring(from, i).trim());
                from = i + 1;
            }
        }
        return all;
    }

    private static boolean isQuoted(String sentence, int promise) {
        for (Quoted q : ALL) {
            boolean meant = promise == 0 || q.promise() == promise;
            if (meant && (q.quote().contains(sentence) || sentence.contains(q.quote()))) {
                return true;
            }
        }
        return false;
    }
}
