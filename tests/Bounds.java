import java.io.IOException;
import java.nio.file.Files;
import java.nio.file.Path;
import java.util.ArrayList;
import java.util.List;
import java.util.NoSuchElementException;
import java.util.function.Predicate;
import java.util.function.Supplier;
import java.util.function.ToLongFunction;

/** What all tests of boundary cases share: each names its promise and quotes the sentence that it holds. */
class Bounds {
    static final int MIN = Integer.MIN_VALUE;
    static final int MAX = Integer.MAX_VALUE;
    /** Stands for an exception where a call is told as a number. */
    static final long NO_SUCH = 1L << 40;

    record Quoted(int promise, String quote) {
    }

    static final List<Quoted> ALL = new ArrayList<>();
    private static String document = null;
    private static String here = "";
    private static int wrong = 0;
    private static int held = 0;

    static int wrongAnswers() {
        return wrong;
    }

    static void fail(String what) {
        wrong++;
        System.out.println(here + ": " + what);
    }

    /** The document in one line; empty where it is not to be read: then the quotes alone are not held against it. */
    static String document() {
        if (document == null) {
            try {
                document = squeezed(Files.readString(Path.of("../shared/DOC.md")));
            } catch (IOException e) {
                System.out.println("no document at ../shared/DOC.md: quotes are not held against it");
                document = "";
            }
        }
        return document;
    }

    static String squeezed(String text) {
        return text.replaceAll("==== \\d\\.", " ").replace("```text", " ").replace("```", " ")
                .replaceAll("\\s+", " ").trim();
    }

    /** The words of one promise, without its heading and its call. */
    static String promiseText(int promise) {
        return document().substring(promiseStart(promise), promiseEnd(promise));
    }

    static int promiseStart(int promise) {
        int heading = document().indexOf("## Promise " + promise + ":");
        return document().indexOf("`: ", heading) + 3;
    }

    static int promiseEnd(int promise) {
        return document().indexOf(" ## ", promiseStart(promise));
    }

    /** What the document says before and between the promises: its first lines, the face, the terms, the constants. */
    static String before() {
        return document().substring(0, document().indexOf("## Promise 1:"));
    }

    private static String behind() {
        return document().substring(document().indexOf("## Not promised"));
    }

    /** Promise 0 is all that the document says outside of its promises. */
    static void test(int promise, String quote, Runnable body) {
        here = "promise " + promise + " (\"" + quote + "\")";
        ALL.add(new Quoted(promise, quote));
        boolean stands = document().isEmpty() || before().contains(quote)
                || (promise == 0 ? behind() : promiseText(promise)).contains(quote);
        if (!stands) {
            fail("the document has no such sentence");
        }
        int before = held;
        body.run();
        if (held == before) {
            fail("nothing is held");
        }
    }

    static void due(String call, long got, long want) {
        held++;
        if (got != want) {
            fail(call + " answered " + told(got) + ", due is " + told(want));
        }
    }

    static void due(String call, boolean got, boolean want) {
        due(call, got ? 1 : 0, want ? 1 : 0);
    }

    static void same(String call, String got, String want) {
        held++;
        if (!got.equals(want)) {
            fail(call + " is " + got + ", due is " + want);
        }
    }

    private static String told(long answer) {
        return answer == NO_SUCH ? "NoSuchElementException" : Long.toString(answer);
    }

    /** A call that answers as told and changes nothing: all that can be asked stays, and what is done next. */
    static void quiet(Supplier<CopperBoard> made, String call, ToLongFunction<CopperBoard> what, long want) {
        for (int part = 0; part < View.PARTS; part++) {
            CopperBoard without = made.get();
            CopperBoard with = made.get();
            int before = wrong;
            due(call, what.applyAsLong(with), want);
            if (wrong != before) {
                return;
            }
            String plain = View.of(without, part);
            String behind = View.of(with, part);
            if (!plain.equals(behind)) {
                fail(call + " changed something: " + firstDifference(plain, behind));
                return;
            }
        }
    }

    static void refused(Supplier<CopperBoard> made, String call, ToLongFunction<CopperBoard> what) {
        quiet(made, call, what, -1);
    }

    static void refusedFalse(Supplier<CopperBoard> made, String call, Predicate<CopperBoard> what) {
        quiet(made, call, b -> what.test(b) ? 1 : 0, 0);
    }

    private static String firstDifference(String a, String b) {
        String[] left = a.split("\n");
        String[] right = b.split("\n");
        for (int i = 0; i < left.length && i < right.length; i++) {
            if (!left[i].equals(right[i])) {
                return left[i] + " became " + right[i];
            }
        }
        return "the number of answers";
    }

    static long told(CopperBoard b, int sort, int what) {
        try {
            return b.told(sort, what);
        } catch (NoSuchElementException e) {
            return NO_SUCH;
        }
    }

    /** Feeds a text of any length up to what the tape takes; the answer of the last call. */
    static int feed(CopperBoard b, String text) {
        int answer = b.count(2);
        for (int from = 0; from < text.length(); from += 20) {
            int[] w = new int[5];
            for (int i = from; i < text.length() && i < from + 20; i++) {
                w[(i - from) / 4] |= text.charAt(i) << (24 - 8 * ((i - from) % 4));
            }
            answer = b.feed(w[0], w[1], w[2], w[3], w[4]);
        }
        return answer;
    }

    static int sort(CopperBoard b, String text) {
        feed(b, text);
        return b.sort();
    }

    /** A board with a net for each text; texts alike share a class. */
    static CopperBoard board(int wide, int deep, int layers, String... texts) {
        CopperBoard b = new CopperBoard(wide, deep, layers);
        List<String> known = new ArrayList<>();
        for (String text : texts) {
            if (!known.contains(text)) {
                known.add(text);
                sort(b, text);
            }
            b.net(known.indexOf(text));
        }
        return b;
    }

    /** Pins in the first layer, by x and y. */
    static void pins(CopperBoard b, int net, int... places) {
        for (int i = 0; i + 1 < places.length; i += 2) {
            b.pin(net, places[i], places[i + 1], 0);
        }
    }

    static void keep(CopperBoard b, int x, int y, int layer) {
        b.keep(x, y, x, y, 1 << layer);
    }

    /** The copper of a layer row by row; the bits of nets as signs. */
    static String picture(CopperBoard b, int layer) {
        StringBuilder all = new StringBuilder();
        int wide = b.count(3);
        int deep = b.count(4);
        for (int y = 0; y < deep; y++) {
            for (int x = 0; x < wide; x++) {
                int bits = b.copper(x, y, layer);
                all.append(bits == 0 ? "." : Integer.toString(bits, 36));
            }
            all.append(y + 1 < deep ? "/" : "");
        }
        return all.toString();
    }

    /** A board where all that can be told has been: 0 and 2 are laid, 1 is not, 3 has no pins. */
    static CopperBoard rich() {
        CopperBoard b = new CopperBoard(4, 3, 2);
        sort(b, "s 2,v 3");
        sort(b, "l 0");
        sort(b, "c 1,b 2");
        b.net(0);
        b.net(1);
        b.net(0);
        b.net(2);
        pins(b, 0, 0, 0, 3, 0);
        pins(b, 1, 0, 1, 3, 1);
        b.pin(2, 0, 2, 1);
        b.pin(2, 3, 2, 1);
        b.wire(2, 2, 2, 3, 2, 1);
        b.wire(1, 3, 1, 2, 1, 0);
        b.hole(2, 2, 2, 0);
        b.keep(1, 0, 1, 1, 1);
        b.rank(0, 5);
        b.rank(2, 7);
        b.slow(1, 7);
        b.slow(-1, 2);
        b.lay(0);
        b.lay(2);
        feed(b, "s 1,v");
        return b;
    }

    /** A board with all classes, nets and pins that there can be. */
    static CopperBoard full() {
        CopperBoard b = new CopperBoard(4, 5, 2);
        for (int i = 0; i < 6; i++) {
            sort(b, "s " + (i + 1));
        }
        for (int i = 0; i < 8; i++) {
            b.net(i % 6);
            for (int p = 0; p < 4; p++) {
                b.pin(i, p, i % 4, i / 4);
            }
        }
        feed(b, "c 1");
        return b;
    }
}
