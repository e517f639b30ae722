import java.util.Arrays;

/** For each sentence that names a boundary case a test of its own; and each sentence of the document has one. */
public final class BoundariesTest extends Bounds {
    private static final int JOINING = 10;

    public static void main(String[] args) {
        BoundsFace.all();
        BoundsTexts.all();
        BoundsNets.all();
        BoundsLaying.all();
        BoundsPressing.all();
        BoundsCutting.all();
        BoundsShapes.all();
        BoundsChecks.all();
        BoundsRest.all();
        int missing = document().isEmpty() ? 0 : missingParts();
        int wrong = wrongAnswers() + missing;
        System.out.println(wrong == 0 ? ALL.size() + " boundary cases are as due" : wrong + " answers are not as due");
        if (wrong != 0) {
            System.exit(1);
        }
    }

    /** Parts of the face, the terms, the constants and the promises that no test quotes. */
    private static int missingParts() {
        String text = document();
        boolean[] held = new boolean[text.length()];
        for (Quoted q : ALL) {
            hold(held, q.quote(), 0, before().length());
            if (q.promise() > 0) {
                hold(held, q.quote(), promiseStart(q.promise()), promiseEnd(q.promise()));
            }
        }
        int many = missingIn(held, text.indexOf("public final class"), before().length());
        for (int promise = 1; promise <= 43; promise++) {
            many += missingIn(held, promiseStart(promise), promiseEnd(promise));
        }
        return many;
    }

    private static void hold(boolean[] held, String quote, int from, int to) {
        for (int at = document().indexOf(quote, from); at >= 0 && at + quote.length() <= to;
                at = document().indexOf(quote, at + 1)) {
            Arrays.fill(held, at, at + quote.length(), true);
        }
    }

    /** Says what stands unquoted, but for the few words that only join two quotes. */
    private static int missingIn(boolean[] held, int from, int to) {
        int many = 0;
        int start = from;
        for (int i = from; i <= to; i++) {
            if (i == to || held[i]) {
                String part = document().substring(start, i).trim();
                if (part.replaceAll("[^A-Za-z]", "").length() > JOINING) {
                    System.out.println("no test quotes " + part);
                    many++;
                }
                start = i + 1;
            }
        }
        return many;
    }
}
