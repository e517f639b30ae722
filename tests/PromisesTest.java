import java.util.NoSuchElementException;

/** For each promise of the document ordinary calls, its edges, and calls that are refused. */
public final class PromisesTest {
    private static final int MIN = Integer.MIN_VALUE;
    private static final int MAX = Integer.MAX_VALUE;
    private static int wrong = 0;
    private static int promise = 0;

    public static void main(String[] args) {
        telling();
        laying();
        pressing();
        searching();
        shaping();
        planes();
        checking();
        comparing();
        System.out.println(wrong == 0 ? "all promises are as due" : wrong + " answers are not as due");
        if (wrong != 0) {
            System.exit(1);
        }
    }

    private static void due(String call, long got, long want) {
        if (got != want) {
            wrong++;
            System.out.println("promise " + promise + ": " + call + " answered " + got + ", due is " + want);
        }
    }

    private static void due(String call, boolean got, boolean want) {
        due(call, got ? 1 : 0, want ? 1 : 0);
    }

    private static int feed(CopperBoard b, String text) {
        int[] w = new int[5];
        for (int i = 0; i < text.length(); i++) {
            w[i / 4] |= text.charAt(i) << (24 - 8 * (i % 4));
        }
        return b.feed(w[0], w[1], w[2], w[3], w[4]);
    }

    /** A board with one net for each text, each with a class of its own or an older one (of the same text). */
    private static CopperBoard board(int wide, int deep, int layers, String... texts) {
        CopperBoard b = new CopperBoard(wide, deep, layers);
        for (int i = 0; i < texts.length; i++) {
            int sort = -1;
            for (int j = 0; j < i; j++) {
                if (texts[j].equals(texts[i])) {
                    sort = j;
                    break;
                }
            }
            if (sort < 0) {
                feed(b, texts[i]);
                sort = b.sort();
            } else {
                int earlier = 0;
                for (int j = 0; j < sort; j++) {
                    boolean fresh = true;
                    for (int k = 0; k < j; k++) {
                        fresh &= !texts[k].equals(texts[j]);
                    }
                    earlier += fresh ? 1 : 0;
                }
                sort = earlier;
            }
            b.net(sort);
        }
        return b;
    }

    private static int faultOf(int layers, String text) {
        CopperBoard b = new CopperBoard(5, 5, layers);
        feed(b, text);
        return b.fault();
    }

    private static String told(CopperBoard b, int sort) {
        StringBuilder all = new StringBuilder();
        for (int what = 0; what < 5; what++) {
            all.append(b.told(sort, what)).append(' ');
        }
        return all.toString().trim();
    }

    private static boolean refusesTold(CopperBoard b, int sort, int what) {
        try {
            b.told(sort, what);
            return false;
        } catch (NoSuchElementException e) {
            return true;
        }
    }

    /** The copper of one layer, row by row, nets as digits of their bits. */
    private static String picture(CopperBoard b, int layer) {
        StringBuilder all = new StringBuilder();
        for (int y = 0; y < b.count(4); y++) {
            for (int x = 0; x < b.count(3); x++) {
                int bits = b.copper(x, y, layer);
                all.append(bits == 0 ? "." : Integer.toString(bits, 36));
            }
            all.append(y + 1 < b.count(4) ? "/" : "");
        }
        return all.toString();
    }

    private static void same(String call, String got, String want) {
        if (!got.equals(want)) {
            wrong++;
            System.out.println("promise " + promise + ": " + call + " answered " + got + ", due is " + want);
        }
    }

    // ---- 1 to 13: what is told

    private static void telling() {
        promise = 1;
        int[][] sizes = {{4, 3, 2, 4, 3, 2}, {1, 10, 0, 2, 9, 1}, {10, 1, 5, 9, 2, 4}, {MIN, MAX, MAX, 2, 9, 4},
            {MAX, MIN, MIN, 9, 2, 1}, {2, 9, 4, 2, 9, 4}};
        for (int[] s : sizes) {
            CopperBoard b = new CopperBoard(s[0], s[1], s[2]);
            due("wide", b.count(3), s[3]);
            due("deep", b.count(4), s[4]);
            due("layers", b.count(5), s[5]);
            due("classes", b.count(0), 0);
            due("nets", b.count(1), 0);
            due("tape", b.count(2), 0);
            due("corner", b.copper(s[3] - 1, s[4] - 1, s[5] - 1), 0);
            due("beyond", b.copper(s[3], s[4] - 1, s[5] - 1), -1);
        }
        promise = 2;
        CopperBoard b = new CopperBoard(3, 3, 1);
        due("feed nothing", b.feed(0, 0, 0, 0, 0), 0);
        due("feed with zeros", b.feed(0x73002031, 0, 0x00000020, 0, 0x2c000000), 5);
        due("fault", b.fault(), 5);
        due("feed high bytes", b.feed(-1, 0, 0, 0, 0x80000001), 11);
        due("fault", b.fault(), 5);
        b.end(0);
        int word = 0x20202020;
        for (int i = 1; i <= 4; i++) {
            due("feed twenty", b.feed(word, word, word, word, word), 20 * i);
        }
        due("feed too much", b.feed(1, 0, 0, 0, 0), -1);
        due("feed nothing to the full tape", b.feed(0, 0, 0, 0, 0), 80);
        due("tape", b.count(2), 80);
        b.end(79);
        due("feed two", b.feed(0, 0, 257, 0, 0), -1);
        due("tape stays", b.count(2), 79);
        due("feed one", b.feed(0, 0, 0, 0, 1), 80);
        for (int i = 0; i < 5; i++) {
            int[] w = {257, 257, 257, 257, 257};
            w[i] = word;
            b.end(69);
            due("twelve bytes are one too many", b.feed(w[0], w[1], w[2], w[3], w[4]), -1);
            b.end(68);
            due("twelve bytes", b.feed(w[0], w[1], w[2], w[3], w[4]), 80);
        }
        promise = 3;
        b.end(0);
        feed(b, "s 5, v 3");
        due("end(-1)", b.end(-1), false);
        due("end(9)", b.end(9), false);
        due("end(min)", b.end(MIN), false);
        due("end(8)", b.end(8), true);
        due("tape", b.count(2), 8);
        due("end(3)", b.end(3), true);
        due("fault", b.fault(), -1);
        due("tape", b.count(2), 3);
        due("end(4)", b.end(4), false);
        due("end(0)", b.end(0), true);
        due("fault", b.fault(), 0);
        faults();
        sorts();
        netsAndPins();
        handLaid();
    }

    private static void faults() {
        promise = 4;
        String[] texts = {"", "s", "s ", "s 1", "s1", "s 0", "s 9", "s 10", "s 01", "s 00", "s 001", "v 0", "v 99",
            "v 100", "b99", "b 0", "c 2", "c 3", "c 20", "l", "l ", "l 0", "l 1", "l 00", "l 0 1", "x", "S 1", "s 1,",
            "s 1, ", "s 1,,", "s 1 v 2", "s 1,v 2", "s 1,s 2", "v2,b3,c1,s4,l0", "s 1 2", "s 1 , v 2", ",s 1", "s,1",
            "l 0,s 3", "l 0 s 3", "l 0,l 1", "l0x", "s-1", "s 1,v 5,s", "l 2", "l 9", "v 1 ,", "s 100", "l ,"};
        int[] two = {0, 1, 2, -1, -1, 2, -1, 3, -1, 3, 3, -1, -1,
            4, -1, -1, -1, 2, 3, 1, 2, -1, -1, 3, -1, 0, 0, 4,
            5, 4, 4, -1, 4, -1, 4, -1, 0, 1,
            -1, 4, 4, 2, 1, 8, 2, 2, 5, 3, 2};
        for (int i = 0; i < texts.length; i++) {
            due("fault of \"" + texts[i] + "\"", faultOf(2, texts[i]), two[i]);
        }
        due("fault of \"l 1\" on one layer", faultOf(1, "l 1"), 2);
        due("fault of \"l 3120\" on four layers", faultOf(4, "l 3120"), -1);
        due("fault of \"l 3 1 3\" on four layers", faultOf(4, "l 3 1 3"), 6);
        due("fault of \"l 4\" on four layers", faultOf(4, "l 4"), 2);
    }

    private static void sorts() {
        promise = 5;
        CopperBoard b = new CopperBoard(4, 4, 3);
        due("sort of nothing", b.sort(), -1);
        feed(b, "s 3,");
        due("sort of a fault", b.sort(), -1);
        due("tape stays", b.count(2), 4);
        b.end(3);
        due("sort", b.sort(), 0);
        due("tape is empty", b.count(2), 0);
        due("classes", b.count(0), 1);
        for (int i = 1; i < 6; i++) {
            feed(b, "v " + (90 + i));
            due("sort", b.sort(), i);
        }
        feed(b, "b 7");
        due("a seventh", b.sort(), -1);
        due("tape stays", b.count(2), 3);
        due("fault", b.fault(), -1);
        due("classes", b.count(0), 6);
        promise = 6;
        same("told(0)", told(b, 0), "3 5 0 0 7");
        same("told(5)", told(b, 5), "1 95 0 0 7");
        CopperBoard c = new CopperBoard(4, 4, 3);
        feed(c, "l 20,b 42,c 1,v 0");
        c.sort();
        same("told", told(c, 0), "1 0 42 1 5");
        due("told(0, 5)", refusesTold(c, 0, 5), true);
        due("told(0, -1)", refusesTold(c, 0, -1), true);
        due("told(1, 0)", refusesTold(c, 1, 0), true);
        due("told(-1, 0)", refusesTold(c, -1, 0), true);
        due("told(max, max)", refusesTold(c, MAX, MAX), true);
        due("told(min, 4)", refusesTold(c, MIN, 4), true);
        due("told(0, 4)", refusesTold(c, 0, 4), false);
    }

    private static void netsAndPins() {
        promise = 7;
        CopperBoard b = new CopperBoard(3, 3, 2);
        due("net without classes", b.net(0), -1);
        feed(b, "s 1");
        b.sort();
        due("net(-1)", b.net(-1), -1);
        due("net(1)", b.net(1), -1);
        due("net(max)", b.net(MAX), -1);
        for (int i = 0; i < 8; i++) {
            due("net", b.net(0), i);
        }
        due("a ninth", b.net(0), -1);
        due("nets", b.count(1), 8);
        promise = 8;
        due("pin", b.pin(0, 0, 0, 0), 0);
        due("pin there", b.pin(0, 0, 0, 0), -1);
        due("pin of another there", b.pin(1, 0, 0, 0), -1);
        due("pin one layer below", b.pin(1, 0, 0, 1), 0);
        due("pin", b.pin(0, 2, 2, 1), 1);
        due("pin", b.pin(0, 1, 0, 0), 2);
        due("pin", b.pin(0, 2, 0, 0), 3);
        due("a fifth", b.pin(0, 2, 1, 0), -1);
        due("no such net", b.pin(8, 2, 1, 0), -1);
        due("no such net", b.pin(-1, 2, 1, 0), -1);
        due("beyond", b.pin(1, 3, 1, 0), -1);
        due("beyond", b.pin(1, 1, 3, 0), -1);
        due("beyond", b.pin(1, 1, 1, 2), -1);
        due("beyond", b.pin(1, -1, 1, 0), -1);
        due("beyond", b.pin(1, MIN, MAX, MIN), -1);
        b.wire(2, 0, 2, 2, 2, 0);
        b.keep(1, 1, 1, 1, 1);
        due("pin on another's wire", b.pin(3, 1, 2, 0), 0);
        due("pin on a keepout", b.pin(4, 1, 1, 0), 0);
        due("pins", b.about(0, 3), 4);
    }

    private static void handLaid() {
        promise = 9;
        CopperBoard b = board(4, 4, 2, "s 1", "s 1");
        due("keep", b.keep(1, 1, 2, 3, 2), true);
        due("inside", b.free(0, 2, 3, 1), 0);
        due("inside", b.free(0, 1, 1, 1), 0);
        due("beside", b.free(0, 0, 1, 1), 1);
        due("other layer", b.free(0, 1, 1, 0), 1);
        due("one cell in both", b.keep(0, 0, 0, 0, 3), true);
        due("there", b.free(0, 0, 0, 0) + b.free(0, 0, 0, 1), 0);
        int[][] bad = {{2, 0, 1, 0, 1}, {0, 2, 0, 1, 1}, {0, 0, 4, 0, 1}, {0, 0, 0, 4, 1}, {-1, 0, 0, 0, 1},
            {0, -1, 0, 0, 1}, {0, 0, 1, 1, 0}, {0, 0, 1, 1, 4}, {0, 0, 1, 1, 5}, {0, 0, 1, 1, -1}, {MIN, MIN, MAX, MAX, 1}};
        for (int[] k : bad) {
            due("keep refused", b.keep(k[0], k[1], k[2], k[3], k[4]), false);
        }
        due("nothing changed", b.free(0, 1, 0, 0), 1);
        promise = 10;
        b = board(4, 4, 2, "s 1", "s 1");
        due("wire east", b.wire(0, 0, 1, 3, 1, 0), true);
        due("wire north", b.wire(1, 2, 3, 2, 0, 0), true);
        same("picture", picture(b, 0), "..2./1131/..2./..2.");
        due("the same again", b.wire(0, 3, 1, 2, 1, 0), true);
        due("cells", b.about(0, 2), 4);
        due("delay counts once", b.delay(0), 3);
        due("unlike", b.wire(0, 1, 1, 1, 1, 0), false);
        due("not straight", b.wire(0, 0, 0, 1, 1, 0), false);
        due("beyond", b.wire(0, 0, 0, 4, 0, 0), false);
        due("beyond", b.wire(0, 0, -1, 0, 0, 0), false);
        due("no layer", b.wire(0, 0, 0, 1, 0, 2), false);
        due("no layer", b.wire(0, 0, 0, 1, 0, -1), false);
        due("no net", b.wire(2, 0, 0, 1, 0, 0), false);
        due("far", b.wire(0, MIN, 0, MAX, 0, 0), false);
        same("picture stays", picture(b, 0), "..2./1131/..2./..2.");
        due("length is of traces alone", b.about(0, 0), 0);
        promise = 11;
        b = board(3, 3, 3, "s 1");
        due("hole", b.hole(0, 1, 1, 0), true);
        due("upper", b.copper(1, 1, 0), 1);
        due("lower", b.copper(1, 1, 1), 1);
        due("not below", b.copper(1, 1, 2), 0);
        due("hole", b.hole(0, 0, 0, 1), true);
        due("last layer", b.hole(0, 0, 0, 2), false);
        due("no layer", b.hole(0, 0, 0, -1), false);
        due("no layer", b.hole(0, 0, 0, MAX), false);
        due("no net", b.hole(1, 0, 0, 0), false);
        due("no cell", b.hole(0, 3, 0, 0), false);
        due("cells", b.about(0, 2), 4);
        promise = 12;
        b = board(3, 3, 2, "s 1", "s 1", "s 1");
        b.pin(0, 0, 0, 0);
        b.wire(1, 0, 0, 2, 0, 0);
        b.wire(2, 0, 0, 0, 2, 0);
        due("three nets", b.copper(0, 0, 0), 7);
        due("one", b.copper(2, 0, 0), 2);
        due("none", b.copper(2, 2, 0), 0);
        due("no cell", b.copper(3, 0, 0), -1);
        due("no cell", b.copper(0, 0, 2), -1);
        due("no cell", b.copper(MIN, MAX, 0), -1);
        promise = 13;
        b = board(6, 6, 2, "s 1", "c 1", "c 2,l 0");
        b.pin(0, 0, 0, 0);
        due("own copper", b.free(0, 0, 0, 0), 1);
        due("clear 0", b.free(0, 1, 0, 0), 1);
        due("clear 1 at it", b.free(1, 1, 1, 0), 0);
        due("clear 1 two away", b.free(1, 2, 0, 0), 1);
        due("clear 1 other layer", b.free(1, 0, 0, 1), 1);
        due("clear 2", b.free(2, 2, 2, 0), 0);
        due("clear 2 three away", b.free(2, 3, 0, 0), 1);
        due("not its layer", b.free(2, 5, 5, 1), 0);
        b.pin(2, 5, 5, 1);
        due("own copper out of its layers", b.free(2, 5, 5, 1), 1);
        due("the greater clear counts", b.free(0, 3, 3, 1), 0);
        due("three away", b.free(0, 2, 5, 1), 1);
        due("no net", b.free(3, 0, 0, 0), -1);
        due("no cell", b.free(0, 6, 0, 0), -1);
        due("no cell", b.free(0, 0, 0, -1), -1);
    }

    // ---- 14 to 18: one net, and all in an order

    private static void laying() {
        promise = 14;
        CopperBoard b = board(5, 5, 2, "s 2,v 3,b 4");
        due("no pins", b.lay(0), -1);
        due("no net", b.lay(1), -1);
        due("no net", b.lay(-1), -1);
        b.pin(0, 0, 0, 0);
        due("one pin", b.lay(0), 0);
        due("nothing laid", b.about(0, 0), 0);
        b.pin(0, 2, 2, 0);
        // From the second pin: north, north, west, west and west, west, north, north cost alike: north is first.
        due("one bend", b.lay(0), 4 * 2 + 4);
        same("north first", picture(b, 0), "111../..1../..1../...../.....");
        b.keep(2, 0, 2, 0, 1);
        due("west first then", b.lay(0), 12);
        same("west", picture(b, 0), "1..../1..../111../...../.....");
        b.keep(0, 1, 0, 1, 1);
        // Two bends in the layer (16), or a via down and up with one bend (2 * 3 + 12 = 18).
        due("two bends", b.lay(0), 16);
        b.keep(1, 0, 1, 2, 1);
        // North comes before below in the order of moves, and costs the same.
        due("north, below, one bend, above", b.lay(0), 18);
        due("vias", b.about(0, 1), 2);
        due("length", b.about(0, 0), 4);
        same("upper layer", picture(b, 0), "1..../..1../..1../...../.....");
        same("lower layer", picture(b, 1), "111../..1../...../...../.....");
        b.keep(0, 0, 4, 4, 2);
        due("can't", b.lay(0), -1);
        same("as it was", picture(b, 1), "111../..1../...../...../.....");
        bendsThroughVias();
        severalPins();
        alongWires();
        costsAndRips();
        ordering();
    }

    private static void bendsThroughVias() {
        CopperBoard b = board(2, 3, 2, "s 1,v 0,b 9");
        b.pin(0, 0, 0, 0);
        b.pin(0, 0, 2, 0);
        b.keep(0, 1, 0, 1, 1);
        // The via comes before the first step: fewest moves are five: below, north, north, above.
        due("by a free via", b.lay(0), 2);
        same("lower", picture(b, 1), "1./1./1.");
        b = board(3, 2, 2, "s 1,v 0,b 9");
        b.pin(0, 0, 0, 0);
        b.pin(0, 1, 1, 1);
        // A via between two steps does not take the bend away.
        due("bend with a via between", b.lay(0), 11);
        b = board(2, 2, 4, "v 2");
        b.pin(0, 0, 0, 0);
        b.pin(0, 0, 0, 3);
        due("vias alone", b.lay(0), 6);
        due("length", b.about(0, 0), 0);
        due("vias", b.about(0, 1), 3);
        // Dearer in steps than by vias: fewest moves break the tie.
        b = board(4, 3, 2, "s 2,v 0");
        b.pin(0, 0, 1, 0);
        b.pin(0, 3, 1, 0);
        due("free vias, but more moves", b.lay(0), 6);
        due("no vias then", b.about(0, 1), 0);
    }

    private static void severalPins() {
        CopperBoard b = board(5, 3, 1, "s 1");
        b.pin(0, 0, 1, 0);
        b.pin(0, 4, 1, 0);
        b.pin(0, 2, 0, 0);
        b.pin(0, 3, 2, 0);
        due("four pins", b.lay(0), 6);
        same("a tree", picture(b, 0), "..1../11111/...1.");
        due("cells", b.about(0, 2), 7);
        b.pin(0, 4, 2, 0);
        due("a fifth is refused", b.about(0, 3), 4);
        CopperBoard c = board(3, 3, 1, "s 1");
        c.pin(0, 0, 0, 0);
        c.pin(0, 2, 0, 0);
        c.pin(0, 1, 0, 0);
        due("a pin on the way", c.lay(0), 2);
    }

    private static void alongWires() {
        CopperBoard b = board(5, 3, 2, "s 1");
        b.pin(0, 0, 0, 0);
        b.pin(0, 4, 0, 0);
        b.wire(0, 0, 0, 3, 0, 0);
        due("to the wire's end", b.lay(0), 1);
        due("length", b.about(0, 0), 1);
        b.wire(0, 3, 0, 4, 0, 0);
        due("joined by hand", b.lay(0), 0);
        due("no trace", b.rip(0), false);
        b = board(5, 3, 1, "s 1");
        b.pin(0, 0, 0, 0);
        b.pin(0, 4, 0, 0);
        b.wire(0, 1, 0, 3, 0, 0);
        due("moves along a wire that is not joined cost, too", b.lay(0), 4);
        due("delay counts once", b.delay(0), 4);
        b = board(3, 2, 2, "l 0");
        b.pin(0, 0, 0, 0);
        b.pin(0, 2, 0, 0);
        b.keep(1, 0, 1, 1, 1);
        b.wire(0, 0, 1, 2, 1, 1);
        due("the wire below is free, the way to it not", b.lay(0), 1 + 5 + 2 + 5 + 1);
        due("vias", b.about(0, 1), 2);
    }

    private static void costsAndRips() {
        promise = 15;
        CopperBoard b = board(3, 3, 2, "s 2,v 4", "s 1");
        due("no pins", b.cost(0, true), -1);
        due("no net", b.cost(2, true), -1);
        due("no net", b.cost(-1, false), -1);
        b.pin(0, 0, 0, 0);
        due("one pin", b.cost(0, false), 0);
        b.pin(0, 2, 0, 0);
        due("with", b.cost(0, true), 4);
        due("without", b.cost(0, false), 4);
        due("nothing laid", b.about(0, 0), 0);
        b.wire(1, 1, 0, 1, 2, 0);
        due("with", b.cost(0, true), 12);
        due("without", b.cost(0, false), -1);
        due("lay", b.lay(0), 12);
        due("its own trace is no bar", b.cost(0, true), 12);
        b.wire(1, 1, 0, 1, 2, 1);
        due("barred", b.cost(0, true), -1);
        due("still laid", b.about(0, 1), 2);
        b = board(4, 2, 2, "v 9", "s 1");
        b.pin(0, 0, 0, 0);
        b.pin(0, 3, 0, 0);
        b.wire(1, 2, 0, 2, 1, 0);
        b.hole(0, 1, 0, 0);
        b.wire(0, 1, 0, 3, 0, 1);
        b.hole(0, 3, 0, 0);
        due("holes laid by hand are no vias", b.cost(0, false), -1);
        b.wire(0, 0, 0, 1, 0, 0);
        due("joined by hand", b.cost(0, false), 0);
        promise = 16;
        b = board(3, 3, 1, "s 1");
        b.pin(0, 0, 0, 0);
        b.pin(0, 2, 0, 0);
        b.wire(0, 0, 2, 2, 2, 0);
        due("none yet", b.rip(0), false);
        b.lay(0);
        due("rip", b.rip(0), true);
        same("the wire stays", picture(b, 0), "1.1/.../111");
        due("again", b.rip(0), false);
        due("no net", b.rip(1), false);
        due("no net", b.rip(MIN), false);
    }

    private static void ordering() {
        promise = 17;
        CopperBoard b = board(3, 3, 1, "s 1", "s 1", "s 1");
        due("rank 0", b.about(0, 4), 0);
        due("rank", b.rank(0, 99), true);
        due("rank", b.about(0, 4), 99);
        due("too high", b.rank(0, 100), false);
        due("too low", b.rank(0, -1), false);
        due("no net", b.rank(3, 0), false);
        due("no net", b.rank(-1, 0), false);
        due("rank stays", b.about(0, 4), 99);
        promise = 18;
        due("without pins", b.order(), 0);
        b.pin(0, 0, 1, 0);
        b.pin(0, 2, 1, 0);
        b.pin(1, 1, 0, 0);
        b.pin(1, 1, 2, 0);
        due("the lower rank first", b.order(), 1);
        same("net 1", picture(b, 0), ".2./121/.2.");
        b.rank(1, 99);
        due("alike: by numbers", b.order(), 2);
        same("net 0", picture(b, 0), ".2./111/.2.");
        b.rank(1, 98);
        due("net 1 first", b.order(), 1);
        due("net 0 has no trace", b.rip(0), false);
        due("no nets", new CopperBoard(2, 2, 1).order(), 0);
        b = board(3, 3, 1, "s 1");
        b.pin(0, 1, 1, 0);
        due("one pin can", b.order(), 0);
    }

    // ---- 19: pressing

    private static void pressing() {
        promise = 19;
        CopperBoard b = board(5, 3, 1, "s 1", "s 1");
        int[][] bad = {{0, 1}, {21, 1}, {1, 0}, {1, 21}, {MIN, 1}, {1, MAX}, {-1, -1}};
        for (int[] p : bad) {
            due("press refused", b.press(p[0], p[1]), -1);
        }
        due("no pins", b.press(1, 1), 1);
        b.pin(0, 0, 0, 0);
        b.pin(0, 4, 0, 0);
        b.pin(1, 0, 2, 0);
        b.pin(1, 4, 2, 0);
        due("nothing to press", b.press(1, 20), 1);
        same("both straight", picture(b, 0), "11111/...../22222");
        CopperBoard c = board(5, 4, 1, "s 1", "s 1");
        c.pin(0, 0, 1, 0);
        c.pin(0, 4, 1, 0);
        c.pin(1, 1, 0, 0);
        c.pin(1, 3, 0, 0);
        c.keep(2, 0, 2, 0, 1);
        // Net 1 must come down to row 1; net 0 gives way to row 2 once row 1 is dear enough.
        due("in one turn not", c.press(1, 1), -1);
        due("nothing laid", c.about(0, 0) + c.about(1, 0), 0);
        due("net 0 gives way", c.press(9, 2), 2);
        same("laid", picture(c, 0), ".2.2./12221/11111/.....");
        CopperBoard d = board(3, 3, 1, "s 1", "s 1");
        d.pin(0, 0, 1, 0);
        d.pin(0, 2, 1, 0);
        d.pin(1, 1, 0, 0);
        d.pin(1, 1, 2, 0);
        d.lay(0);
        due("can't end well", d.press(20, 20), -1);
        same("as it was", picture(d, 0), ".2./111/.2.");
        CopperBoard e = board(3, 3, 1, "s 1", "s 1");
        e.pin(0, 0, 0, 0);
        e.pin(0, 2, 2, 0);
        e.lay(0);
        e.pin(1, 1, 0, 0);
        e.pin(1, 1, 2, 0);
        e.wire(1, 1, 0, 1, 2, 0);
        String before = picture(e, 0);
        due("wires bar", e.press(3, 3), -1);
        same("as it was", picture(e, 0), before);
    }

    // ---- 20 to 22, 32, 39: what is in the way

    private static void searching() {
        promise = 20;
        CopperBoard b = board(4, 3, 2, "l 0", "s 1", "c 1");
        due("no pins", b.cut(0, 0), -1);
        due("no net", b.cut(3, 0), -1);
        b.pin(0, 0, 0, 0);
        due("all of its layer", b.cut(0, 0), 12);
        due("all pins", b.cut(0, 1), -1);
        due("the layer below is the wall", b.cut(0, 2), 12);
        due("by no net", b.cut(0, 3), 0);
        b.pin(0, 3, 0, 0);
        b.pin(0, 3, 2, 0);
        b.wire(1, 2, 0, 2, 2, 0);
        due("two columns", b.cut(0, 0), 6);
        due("lowest pin beyond", b.cut(0, 1), 1);
        due("column 2 and six below", b.cut(0, 2), 9);
        due("net 1", b.cut(0, 3), 2);
        b.keep(2, 0, 2, 1, 1);
        due("still by one cell", b.cut(0, 3), 2);
        b.keep(2, 2, 2, 2, 1);
        due("a keepout is no net's doing", b.cut(0, 3), 0);
        b.pin(2, 0, 2, 0);
        due("clear 1 round a pin", b.cut(0, 0), 2);
        due("net 2 keeps row 1", b.cut(0, 3), 4);
        due("what", b.cut(0, 4), -1);
        due("what", b.cut(0, -1), -1);
        promise = 21;
        b = board(5, 5, 1, "s 1", "s 1", "s 1", "s 1");
        due("no pins", b.bars(0), -1);
        due("no net", b.bars(4), -1);
        due("no net", b.bars(-1), -1);
        b.pin(0, 0, 2, 0);
        b.pin(0, 4, 2, 0);
        due("it can", b.bars(0), 0);
        b.pin(1, 1, 0, 0);
        b.pin(1, 1, 4, 0);
        b.pin(2, 2, 0, 0);
        b.pin(2, 2, 4, 0);
        b.lay(1);
        due("net 1 bars", b.bars(0), 2);
        b.lay(2);
        due("both bar", b.bars(0), 6);
        b.rip(1);
        due("net 2 alone", b.bars(0), 4);
        b.wire(3, 3, 0, 3, 4, 0);
        due("none help against wires", b.bars(0), -1);
        twoWaysOut();
        together();
        lates();
        whys();
    }

    private static void twoWaysOut() {
        CopperBoard c = board(5, 5, 1, "s 1", "s 1", "s 1");
        c.pin(0, 2, 0, 0);
        c.pin(0, 2, 4, 0);
        c.pin(2, 0, 1, 0);
        c.pin(2, 4, 1, 0);
        c.lay(2);
        due("net 2", c.bars(0), 4);
        c.pin(1, 0, 3, 0);
        c.pin(1, 4, 3, 0);
        c.lay(1);
        due("both", c.bars(0), 6);
        CopperBoard d = board(5, 3, 1, "s 1", "s 1");
        d.keep(1, 1, 3, 1, 1);
        d.pin(0, 0, 1, 0);
        d.pin(0, 4, 1, 0);
        d.pin(1, 2, 0, 0);
        d.pin(1, 2, 2, 0);
        due("pins bar for ever", d.bars(0), -1);
        // Nets 0 and 3 bar row 0, nets 1 and 2 row 2: 0 is the lower where the two sets first differ.
        CopperBoard e = board(9, 3, 2, "v 0", "v 0", "v 0", "v 0", "l 0");
        e.keep(1, 1, 7, 1, 1);
        e.keep(2, 0, 2, 2, 2);
        e.keep(6, 0, 6, 2, 2);
        int[] rows = {0, 2, 2, 0};
        int[] columns = {1, 1, 5, 5};
        for (int i = 0; i < 4; i++) {
            e.pin(i, columns[i], rows[i], 1);
            e.pin(i, columns[i] + 2, rows[i], 1);
            due("over the keepout", e.lay(i), 2);
        }
        e.pin(4, 0, 1, 0);
        e.pin(4, 8, 1, 0);
        due("0 and 3", e.bars(4), 9);
        e.rip(1);
        due("2 alone", e.bars(4), 4);
        due("why is alike without vias", e.why(4), 4);
    }

    private static void together() {
        promise = 22;
        CopperBoard b = board(6, 4, 1, "s 1", "s 1", "s 1", "s 1");
        due("none", b.together(0), -1);
        due("no pins", b.together(1), -1);
        for (int i = 0; i < 4; i++) {
            b.pin(i, 0, i, 0);
            b.pin(i, 5, 3 - i, 0);
        }
        due("one", b.together(1), 1);
        due("crossing", b.together(3), 0);
        due("three", b.together(7), 0);
        due("four", b.together(15), -1);
        due("no such net", b.together(17), -1);
        due("negative", b.together(-1), -1);
        b = board(6, 4, 1, "s 1", "s 1", "s 1");
        for (int i = 0; i < 3; i++) {
            b.pin(i, 0, i, 0);
            b.pin(i, 5, i + 1, 0);
        }
        due("side by side", b.together(7), 1);
        b.lay(0);
        b.lay(1);
        due("others as they lie", b.together(4), b.cost(2, true) >= 0 ? 1 : 0);
        due("their own traces don't bar", b.together(7), 1);
        due("nothing changes", b.about(2, 0), 0);
        b.wire(0, 0, 0, 1, 0, 0);
        due("wires", b.together(1), -1);
        due("without it", b.together(6), 1);
        b = board(5, 5, 1, "s 1");
        b.pin(0, 0, 0, 0);
        b.pin(0, 4, 4, 0);
        due("25 cells", b.together(1), -1);
        b = board(3, 4, 2, "c 1", "s 1");
        b.pin(0, 0, 0, 0);
        b.pin(0, 0, 3, 0);
        b.pin(1, 2, 0, 0);
        b.pin(1, 2, 3, 0);
        due("one clear between", b.together(3), 1);
        b.keep(0, 0, 2, 3, 2);
        b.keep(0, 2, 0, 2, 1);
        due("no room between", b.together(3), 0);
        b = board(3, 3, 1, "s 1");
        b.pin(0, 0, 0, 0);
        due("one pin", b.together(1), -1);
        b.pin(0, 1, 0, 0);
        b.pin(0, 2, 0, 0);
        due("three pins", b.together(1), -1);
        cornersTogether();
    }

    private static void cornersTogether() {
        // The cheapest row of net 0 would bar net 1, a longer one does not.
        CopperBoard b = board(4, 4, 1, "s 1", "s 1");
        b.pin(0, 0, 1, 0);
        b.pin(0, 3, 1, 0);
        b.pin(1, 1, 0, 0);
        b.pin(1, 2, 0, 0);
        b.keep(3, 0, 3, 0, 1);
        due("both", b.together(3), 1);
        b = board(4, 3, 1, "s 1", "s 1");
        b.pin(0, 0, 1, 0);
        b.pin(0, 3, 1, 0);
        b.pin(1, 1, 0, 0);
        b.pin(1, 2, 2, 0);
        due("crossing on one layer", b.together(3), 0);
        b = board(4, 3, 2, "s 1", "s 1");
        b.pin(0, 0, 1, 0);
        b.pin(0, 3, 1, 0);
        b.pin(1, 1, 0, 0);
        b.pin(1, 2, 2, 0);
        due("crossing on two layers", b.together(3), 1);
    }

    private static void lates() {
        promise = 32;
        CopperBoard b = board(5, 3, 1, "s 1", "s 1", "s 1");
        b.pin(0, 0, 0, 0);
        b.pin(0, 4, 0, 0);
        b.pin(1, 0, 1, 0);
        b.pin(1, 3, 1, 0);
        b.lay(0);
        b.lay(1);
        int[][] bad = {{3, 0, 4, 4, 0}, {-1, 0, 4, 2, 0}, {0, 2, 4, 2, 0}, {0, -1, 4, 2, 0}, {0, 0, 5, 2, 0},
            {0, 0, 4, 2, 1}, {0, 0, 0, 0, 0}, {0, 0, 3, 1, 0}, {0, 0, MIN, MAX, 0}, {2, 0, 2, 2, 0}};
        for (int[] l : bad) {
            due("late refused", b.late(l[0], l[1], l[2], l[3], l[4]), -1);
        }
        same("nothing changed", picture(b, 0), "11111/2222./.....");
        due("without the others", b.late(0, 1, 4, 2, 0), 0);
        same("moved", picture(b, 0), "11111/22221/....1");
        // Now pin 1 of net 0 goes to 0, 2: net 1 keeps it from the second row on, but column 4 is open.
        due("round net 1", b.late(0, 1, 0, 2, 0), 0);
        same("moved", picture(b, 0), "11111/22221/11111");
        b = board(5, 3, 1, "s 1", "s 1");
        b.pin(0, 0, 0, 0);
        b.pin(0, 4, 0, 0);
        b.pin(1, 0, 1, 0);
        b.pin(1, 4, 1, 0);
        b.lay(0);
        b.lay(1);
        // Net 0 goes through net 1; net 1 can't be laid behind it.
        due("none such", b.late(0, 1, 2, 2, 0), -1);
        same("nothing changed", picture(b, 0), "11111/22222/.....");
        due("pin is where it was", b.copper(2, 2, 0), 0);
        b = board(5, 4, 1, "s 1", "s 1");
        b.pin(0, 0, 0, 0);
        b.pin(0, 4, 0, 0);
        b.pin(1, 1, 1, 0);
        b.pin(1, 3, 1, 0);
        b.keep(0, 1, 0, 1, 1);
        b.keep(4, 1, 4, 1, 1);
        b.lay(0);
        b.lay(1);
        due("net 1 must go, but its way is barred then", b.late(0, 1, 2, 3, 0), -1);
        b = board(5, 4, 2, "l 0", "v 1");
        b.pin(0, 0, 0, 0);
        b.pin(0, 4, 0, 0);
        b.pin(1, 1, 1, 0);
        b.pin(1, 3, 1, 0);
        b.keep(0, 1, 0, 1, 1);
        b.keep(4, 1, 4, 1, 1);
        b.lay(0);
        b.lay(1);
        due("net 1 goes below", b.late(0, 1, 2, 3, 0), 2);
        due("net 1 has vias now", b.about(1, 1), 2);
        due("net 0 is laid", b.about(0, 0), 5);
        due("the old place is empty", b.copper(4, 0, 0), 0);
        due("all is joined", b.netlist(1), 0);
        threeLate();
    }

    private static void threeLate() {
        for (int many = 2; many <= 4; many++) {
            CopperBoard b = board(5, 6, 2, "v 1", "v 1", "v 1", "v 1", "l 0");
            for (int i = 0; i < many; i++) {
                b.pin(i, 0, i + 1, 0);
                b.pin(i, 4, i + 1, 0);
            }
            b.pin(4, 2, 0, 0);
            b.pin(4, 3, 0, 0);
            due("all can", b.order(), 0);
            String before = picture(b, 0);
            due(many + " must go", b.late(4, 1, 2, 5, 0), many < 4 ? (1 << many) - 1 : -1);
            due("their vias", b.about(0, 1) + b.about(many - 1, 1), many < 4 ? 4 : 0);
            due("its length", b.about(4, 0), many < 4 ? 5 : 1);
            if (many == 4) {
                same("as it was", picture(b, 0), before);
            }
        }
    }

    private static void whys() {
        promise = 39;
        CopperBoard b = board(4, 3, 2, "s 1", "s 1", "s 1");
        due("no pins", b.why(0), -1);
        due("no net", b.why(3), -1);
        due("no net", b.why(MIN), -1);
        b.pin(0, 0, 1, 0);
        b.pin(0, 3, 1, 0);
        due("without", b.why(0), 0);
        b.pin(1, 1, 0, 0);
        b.pin(1, 1, 2, 0);
        b.lay(1);
        due("bars", b.bars(0), 0);
        due("net 1", b.why(0), 2);
        b.pin(2, 2, 0, 0);
        b.pin(2, 2, 2, 0);
        b.lay(2);
        due("both", b.why(0), 6);
        due("nothing changes", b.about(1, 0) + b.about(2, 0), 4);
        b.pin(0, 3, 1, 1);
        due("none help", b.why(0), -1);
        b.hole(0, 3, 1, 0);
        due("a hole laid by hand helps", b.why(0), 6);
    }

    // ---- 23 to 26: lengths

    private static void shaping() {
        promise = 23;
        CopperBoard b = board(4, 3, 2, "v 0,s 9", "s 1");
        for (int what = 0; what < 5; what++) {
            due("about", b.about(0, what), 0);
        }
        b.pin(0, 0, 0, 0);
        b.pin(0, 1, 1, 1);
        b.wire(0, 0, 0, 0, 2, 0);
        b.lay(0);
        b.rank(0, 7);
        due("length", b.about(0, 0), 1);
        due("vias", b.about(0, 1), 1);
        due("cells", b.about(0, 2), 5);
        due("pins", b.about(0, 3), 2);
        due("rank", b.about(0, 4), 7);
        due("what", b.about(0, 5), -1);
        due("what", b.about(0, -1), -1);
        due("net", b.about(2, 0), -1);
        due("net", b.about(-1, 0), -1);
        promise = 24;
        b = board(6, 3, 1, "s 1", "s 1");
        due("no pins", b.stretch(0, 9), -1);
        b.pin(0, 0, 1, 0);
        b.pin(0, 5, 1, 0);
        due("not laid", b.stretch(0, 9), -1);
        due("span not laid", b.span(0), -1);
        b.lay(0);
        due("out of bounds", b.stretch(0, -1), -1);
        due("out of bounds", b.stretch(0, 201), -1);
        due("no net", b.stretch(2, 9), -1);
        due("less than it has", b.stretch(0, 0), 5);
        due("one too few", b.stretch(0, 6), 5);
        due("one bend", b.stretch(0, 8), 7);
        // Going west, the left is the south: the cells below the first step.
        same("to the left", picture(b, 0), "....../111111/....11");
        promise = 25;
        // Of the five steps of row 1 the first went south; the others go north, south, north, south.
        due("span", b.span(0), 15);
        promise = 24;
        due("as much as can be", b.stretch(0, 200), 15);
        same("right, left, right, left", picture(b, 0), ".1111./111111/111111");
        b.wire(0, 0, 0, 1, 0, 0);
        due("with wires", b.stretch(0, 200), -1);
        promise = 25;
        due("with wires", b.span(0), -1);
        due("no net", b.span(-1), -1);
        due("no net", b.span(2), -1);
        stretches();
        promise = 26;
        b = board(6, 3, 1, "s 1", "s 1", "s 1");
        b.pin(0, 0, 0, 0);
        b.pin(0, 5, 0, 0);
        b.pin(1, 0, 2, 0);
        b.pin(1, 3, 2, 0);
        b.lay(0);
        b.lay(1);
        due("5 and 3", b.equal(3, 2), 1);
        due("5 and 3", b.equal(3, 1), 0);
        due("5, 3 and 0", b.equal(7, 4), 0);
        due("5, 3 and 0", b.equal(7, 5), 1);
        due("one", b.equal(1, 0), 1);
        due("none", b.equal(0, 0), -1);
        due("no such net", b.equal(8, 0), -1);
        due("no such net", b.equal(9, 0), -1);
        due("negative", b.equal(-1, 0), -1);
        due("by", b.equal(1, -1), -1);
        due("by", b.equal(1, 201), -1);
        due("by", b.equal(1, 200), 1);
    }

    private static void stretches() {
        promise = 24;
        CopperBoard b = board(4, 4, 1, "l 0", "s 1");
        b.pin(0, 1, 0, 0);
        b.pin(0, 1, 3, 0);
        b.lay(0);
        b.pin(1, 0, 2, 0);
        // North: the left is the west; net 1's pin keeps the first two steps from it, the right is open.
        due("to the right, to the left", b.stretch(0, 200), 7);
        same("picture", picture(b, 0), "11../11../211./.11.");
        b = board(3, 3, 2, "v 1", "s 1");
        b.pin(0, 0, 0, 0);
        b.pin(0, 0, 0, 1);
        b.lay(0);
        due("a via alone can't", b.stretch(0, 50), 0);
        due("three pins", b.pin(0, 2, 2, 0), 2);
        due("three pins", b.stretch(0, 50), -1);
    }

    // ---- 27 to 29: planes

    private static void planes() {
        promise = 27;
        CopperBoard b = board(5, 5, 2, "l 1", "s 1");
        due("all cells though not its layer", b.plane(0, 0, 0), 25);
        due("no parts", b.plane(0, 0, 1), 0);
        due("one island", b.plane(0, 0, 2), 1);
        due("no necks", b.plane(0, 0, 3), 0);
        b.wire(1, 2, 0, 2, 3, 0);
        b.pin(0, 0, 0, 0);
        b.pin(0, 4, 0, 0);
        due("cells", b.plane(0, 0, 0), 21);
        due("one part", b.plane(0, 0, 1), 1);
        due("no island", b.plane(0, 0, 2), 0);
        // The way round leads by 1, 4 and 2, 4 and 3, 4: without any of these there are two parts.
        due("necks", b.plane(0, 0, 3), 3);
        b.keep(2, 4, 2, 4, 1);
        due("two parts", b.plane(0, 0, 1), 2);
        due("no necks now", b.plane(0, 0, 3), 0);
        due("other layer", b.plane(0, 1, 0), 25);
        b.pin(1, 4, 2, 0);
        b.wire(1, 3, 2, 4, 2, 0);
        due("an island below", b.plane(0, 0, 2), 1);
        due("own copper on a keepout", b.keep(0, 0, 0, 0, 1), true);
        due("stays in the plane", b.plane(0, 0, 1), 2);
        due("net", b.plane(2, 0, 0), -1);
        due("layer", b.plane(0, 2, 0), -1);
        due("layer", b.plane(0, -1, 0), -1);
        due("what", b.plane(0, 0, 4), -1);
        due("what", b.plane(0, 0, -1), -1);
        promise = 28;
        b = board(4, 4, 2, "s 1", "c 1");
        b.pin(0, 0, 0, 0);
        b.pin(0, 1, 1, 0);
        due("corner", b.spokes(0, 0), 2);
        due("middle", b.spokes(0, 1), 4);
        b.keep(1, 2, 1, 2, 1);
        due("a keepout beside", b.spokes(0, 1), 3);
        b.pin(1, 3, 0, 0);
        due("clear 1 of another", b.spokes(0, 1), 2);
        due("no pin", b.spokes(0, 2), -1);
        due("no pin", b.spokes(0, -1), -1);
        due("no net", b.spokes(2, 0), -1);
        promise = 29;
        b = board(4, 3, 3, "s 1", "s 1", "s 1");
        b.wire(0, 0, 0, 3, 0, 0);
        due("all covered", b.back(0, 1, 1), 0);
        b.keep(1, 0, 2, 0, 2);
        due("two are not", b.back(0, 1, 1), 2);
        due("not next to it", b.back(0, 1, 2), 0);
        b.wire(0, 0, 0, 3, 0, 2);
        due("from both sides", b.back(0, 1, 1), 4);
        b.wire(2, 3, 0, 3, 2, 1);
        due("others' copper", b.back(0, 1, 1), 6);
        due("its own copper", b.back(0, 2, 1), 4);
        due("alike", b.back(0, 0, 1), -1);
        due("net", b.back(3, 0, 1), -1);
        due("of", b.back(0, 3, 1), -1);
        due("layer", b.back(0, 1, 3), -1);
        due("layer", b.back(0, 1, -1), -1);
    }

    // ---- 30, 31, 33, 34: checks

    private static void checking() {
        promise = 30;
        CopperBoard b = board(5, 4, 2, "v 1", "s 1");
        due("no vias", b.wander(3, -3, 0), 0);
        due("no vias", b.wander(3, -3, 1), 0);
        b.hole(0, 1, 1, 0);
        b.wire(0, 1, 1, 2, 1, 0);
        b.wire(0, 1, 1, 2, 1, 1);
        b.wire(1, 0, 2, 4, 2, 1);
        due("where it is", b.wander(0, 0, 0) + b.wander(0, 0, 1), 0);
        due("along its own", b.wander(1, 0, 1), 0);
        due("into nothing", b.wander(-1, 0, 1), 1);
        due("onto another, shorts", b.wander(0, 1, 0), 1);
        due("onto another, opens", b.wander(0, 1, 1), 1);
        due("off the board, opens", b.wander(-2, 0, 1), 1);
        due("off the board, shorts", b.wander(-2, 1, 0), 0);
        int[][] bad = {{4, 0, 0}, {-4, 0, 0}, {0, 4, 0}, {0, -4, 0}, {0, 0, 2}, {0, 0, -1}, {MIN, 0, 0}, {0, MAX, 1}};
        for (int[] w : bad) {
            due("wander refused", b.wander(w[0], w[1], w[2]), -1);
        }
        b.pin(0, 1, 1, 0);
        b.pin(0, 1, 1, 1);
        b.lay(0);
        b.hole(0, 1, 1, 0);
        due("once at each place", b.wander(-1, 0, 1), 1);
        promise = 31;
        due("most 0", b.worst(0, 2), 0);
        due("most 0 x", b.worst(0, 0), 0);
        // Row 2 at x -1, 0 and 1 gives a short and an open; the lowest x is -1, there y is 1.
        due("most 1 x", b.worst(1, 0), -1);
        due("most 1 y", b.worst(1, 1), 1);
        due("most 1", b.worst(1, 2), 2);
        due("most", b.worst(4, 2), -1000);
        due("most", b.worst(-1, 2), -1000);
        due("what", b.worst(1, 3), -1000);
        due("what", b.worst(1, -1), -1000);
        due("no vias: the lowest", new CopperBoard(3, 3, 2).worst(3, 0), -3);
        due("no vias: none", new CopperBoard(3, 3, 2).worst(3, 2), 0);
        netlists();
    }

    private static void netlists() {
        promise = 33;
        CopperBoard b = board(5, 5, 1, "s 1", "s 1", "s 1", "s 1");
        due("nothing", b.netlist(0) + b.netlist(1), 0);
        b.pin(0, 0, 0, 0);
        due("one pin", b.netlist(1), 0);
        b.pin(0, 4, 0, 0);
        b.pin(0, 4, 4, 0);
        due("three parts", b.netlist(1), 2);
        b.wire(0, 0, 0, 4, 0, 0);
        due("two parts", b.netlist(1), 1);
        b.wire(1, 2, 0, 2, 4, 0);
        due("a short", b.netlist(0), 1);
        b.wire(2, 0, 3, 3, 3, 0);
        due("three nets, all pairs", b.netlist(0), 3);
        b.wire(3, 0, 4, 1, 4, 0);
        due("side by side is no short", b.netlist(0), 3);
        b.wire(2, 3, 3, 4, 3, 0);
        b.wire(2, 4, 3, 4, 4, 0);
        due("joined by the others' copper", b.netlist(1), 0);
        due("what", b.netlist(2), -1);
        due("what", b.netlist(-1), -1);
        promise = 34;
        b = board(5, 4, 2, "s 1", "s 1");
        due("none", b.test(0), 0);
        b.pin(0, 0, 0, 0);
        b.pin(1, 1, 0, 0);
        due("neighbours", b.test(0), 0);
        b.wire(0, 0, 0, 0, 1, 0);
        due("net 0 by its other end", b.test(0), 1);
        b.keep(0, 1, 0, 1, 1);
        due("a keepout", b.test(0), 0);
        b.wire(1, 1, 0, 3, 0, 0);
        due("net 1", b.test(0), 2);
        b.wire(0, 3, 0, 4, 0, 0);
        due("both on one cell", b.test(0), 0);
        b.pin(1, 4, 3, 1);
        due("below", b.test(1), 2);
        due("layer", b.test(2), -1);
        due("layer", b.test(-1), -1);
    }

    // ---- 35 to 43

    private static void comparing() {
        promise = 35;
        CopperBoard b = board(5, 3, 2, "v 1", "s 1");
        due("layer", b.slow(0, 99), true);
        due("layer", b.slow(1, 0), true);
        due("vias", b.slow(-1, 99), true);
        due("no layer", b.slow(2, 1), false);
        due("no layer", b.slow(-2, 1), false);
        due("too much", b.slow(0, 100), false);
        due("too little", b.slow(-1, -1), false);
        due("far", b.slow(MIN, MAX), false);
        promise = 36;
        b = board(5, 3, 2, "v 1", "s 1");
        due("nothing", b.delay(0), 0);
        b.wire(0, 0, 0, 4, 0, 0);
        b.hole(0, 4, 0, 0);
        b.wire(0, 4, 0, 4, 2, 1);
        due("1 a step, 0 a via", b.delay(0), 6);
        b.slow(0, 10);
        b.slow(1, 3);
        b.slow(-1, 7);
        due("told", b.delay(0), 40 + 6 + 7);
        b.pin(0, 0, 0, 0);
        b.pin(0, 0, 0, 1);
        b.lay(0);
        due("a trace more", b.delay(0), 40 + 6 + 7 + 7);
        due("net", b.delay(2), -1);
        due("net", b.delay(-1), -1);
        pairs();
        besides();
        promise = 41;
        panels();
        promise = 42;
        b = board(3, 3, 2, "s 1", "s 1");
        due("none", b.unwire(0), false);
        b.hole(0, 0, 0, 0);
        due("a hole", b.unwire(0), true);
        due("gone", b.copper(0, 0, 1), 0);
        b.pin(0, 0, 0, 0);
        b.pin(0, 2, 0, 0);
        b.wire(0, 0, 0, 0, 2, 0);
        b.wire(1, 0, 2, 2, 2, 0);
        b.lay(0);
        due("unwire", b.unwire(0), true);
        same("pins, traces and others stay", picture(b, 0), "111/.../222");
        due("again", b.unwire(0), false);
        due("net", b.unwire(2), false);
        due("net", b.unwire(-1), false);
        promise = 43;
        due("classes", b.count(0), 1);
        due("nets", b.count(1), 2);
        feed(b, "abc");
        due("bytes", b.count(2), 3);
        due("wide", b.count(3), 3);
        due("deep", b.count(4), 3);
        due("layers", b.count(5), 2);
        due("what", b.count(6), -1);
        due("what", b.count(-1), -1);
        due("what", b.count(MIN), -1);
        due("NONE", CopperBoard.NONE, -1);
        due("HIDDEN", CopperBoard.HIDDEN, -1000);
    }

    private static void pairs() {
        promise = 37;
        CopperBoard b = board(6, 4, 2, "s 1", "s 1");
        due("nothing", b.pair(0, 1, 0), 0);
        due("nothing", b.pair(0, 1, 1), 0);
        due("not laid", b.pair(0, 1, 2), -1000);
        due("nothing", b.pair(0, 1, 3), 0);
        b.pin(0, 0, 1, 0);
        b.pin(0, 5, 1, 0);
        b.lay(0);
        due("alone", b.pair(0, 1, 2), 0);
        b.wire(1, 1, 0, 2, 0, 0);
        b.wire(1, 4, 2, 4, 3, 0);
        due("three cells beside", b.pair(0, 1, 0), 3);
        due("of the other one", b.pair(1, 0, 0), 3);
        due("delays", b.pair(0, 1, 1), 3);
        due("delays", b.pair(1, 0, 1), -3);
        due("longest", b.pair(0, 1, 2), 2);
        due("away", b.pair(0, 1, 3), 4);
        due("wires don't turn", b.pair(1, 0, 3), 0);
        due("with wires", b.pair(1, 0, 2), -1000);
        due("alike", b.pair(0, 0, 0), -1000);
        due("what", b.pair(0, 1, 4), -1000);
        due("what", b.pair(0, 1, -1), -1000);
        due("net", b.pair(0, 2, 0), -1000);
        due("net", b.pair(-1, 0, 1), -1000);
        due("below is no neighbour", b.wire(1, 0, 1, 5, 1, 1), true);
        due("three still", b.pair(0, 1, 0), 3);
    }

    private static void besides() {
        promise = 38;
        CopperBoard b = board(4, 3, 2, "v 2", "l 0,v 2", "s 1");
        b.pin(0, 0, 1, 0);
        b.pin(0, 3, 1, 0);
        b.pin(1, 1, 0, 0);
        b.pin(1, 1, 2, 0);
        String before = picture(b, 0);
        due("order lays net 0 alone", b.beside(1, 1, 0), 1);
        due("its length", b.beside(1, 1, 1), 3);
        due("its vias", b.beside(1, 1, 2), 0);
        due("press in one turn", b.beside(1, 1, 3), 0);
        due("no length", b.beside(1, 1, 4), -1);
        due("no vias", b.beside(1, 1, 5), -1);
        due("press in many", b.beside(20, 5, 3), 1);
        due("length", b.beside(20, 5, 4), 5);
        due("vias", b.beside(20, 5, 5), 2);
        same("nothing changes", picture(b, 0), before);
        b.lay(1);
        before = picture(b, 0);
        due("from none on", b.beside(20, 5, 1), 3);
        same("nothing changes", picture(b, 0), before);
        int[][] bad = {{0, 1, 0}, {21, 1, 0}, {1, 0, 0}, {1, 21, 0}, {1, 1, -1}, {1, 1, 6}};
        for (int[] p : bad) {
            due("beside refused", b.beside(p[0], p[1], p[2]), -1);
        }
        promise = 40;
        due("nothing told", new CopperBoard(3, 3, 1).steady(), true);
        due("net 1 is laid, order would lay net 0", b.steady(), false);
        b.order();
        due("behind order", b.steady(), true);
        b.rank(0, 1);
        due("another order", b.steady(), false);
        due("nothing changed", b.about(0, 0), 3);
        b.order();
        due("behind order", b.steady(), true);
        b.rip(0);
        due("one is gone", b.steady(), false);
        b.lay(0);
        due("laid again", b.steady(), true);
    }

    private static void panels() {
        CopperBoard b = new CopperBoard(4, 3, 1);
        int[][] sheets = {{4, 3, 0}, {3, 3, 0}, {3, 4, 0}, {8, 6, 0}, {8, 6, 1}, {9, 7, 1}, {7, 4, 0}, {200, 200, 0},
            {200, 1, 9}, {1, 1, 9}, {11, 4, 0}};
        for (int[] r : sheets) {
            String sheet = r[0] + " x " + r[1] + " by " + r[2] + " ";
            int up = fits(r[0], 4, r[2]) * fits(r[1], 3, r[2]);
            int turned = fits(r[0], 3, r[2]) * fits(r[1], 4, r[2]);
            due(sheet + "how many", b.panel(r[0], r[1], r[2], 0), Math.max(up, turned));
            due(sheet + "turned", b.panel(r[0], r[1], r[2], 1), turned > up ? 1 : 0);
        }
        due("4 x 3", b.panel(4, 3, 0, 0), 1);
        due("3 x 4 turned", b.panel(3, 4, 0, 1), 1);
        due("9 x 7 by 1", b.panel(9, 7, 1, 0), 4);
        due("8 x 7 by 1", b.panel(8, 7, 1, 0), 2);
        due("split 4 x 3", b.panel(4, 3, 0, 2), 1);
        due("split 4 x 3 columns", b.panel(4, 3, 0, 3), 1);
        due("split 7 x 4", b.panel(7, 4, 0, 2), 2);
        due("split 7 x 4 columns", b.panel(7, 4, 0, 3), 0);
        // 11 x 9: upright 2 columns of 3 and one turned column of 2 make 8; turned alone 3 columns of 2 make 6.
        due("split 11 x 9", b.panel(11, 9, 0, 2), 8);
        due("split 11 x 9 columns", b.panel(11, 9, 0, 3), 2);
        // One column upright and two turned make 6, too: the fewest upright ones are told.
        due("split 12 x 9 by 1", b.panel(12, 9, 1, 2), 6);
        due("split 12 x 9 by 1 columns", b.panel(12, 9, 1, 3), 0);
        due("sheet", b.panel(0, 5, 0, 0), -1);
        due("sheet", b.panel(5, 201, 0, 0), -1);
        due("sheet", b.panel(201, 5, 0, 0), -1);
        due("sheet", b.panel(5, 0, 0, 0), -1);
        due("between", b.panel(5, 5, -1, 0), -1);
        due("between", b.panel(5, 5, 10, 0), -1);
        due("what", b.panel(5, 5, 0, 4), -1);
        due("what", b.panel(5, 5, 0, -1), -1);
    }

    private static int fits(int room, int size, int between) {
        int many = 0;
        for (int at = 0; at + size <= room; at += size + between) {
            many++;
        }
        return many;
    }
}
