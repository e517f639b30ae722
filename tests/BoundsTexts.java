import java.util.function.Supplier;

/** Boundary cases of promises 1 to 6: sizes, the tape, texts and the classes that they become. */
final class BoundsTexts extends Bounds {
    static void all() {
        sizes();
        feeding();
        ending();
        settings();
        blanks();
        faults();
        sorting();
        telling();
    }

    private static CopperBoard tape(int layers, String text) {
        CopperBoard b = new CopperBoard(4, 3, layers);
        feed(b, text);
        return b;
    }

    private static void fault(int layers, String text, int want) {
        due("fault() of \"" + text + "\" with " + layers + " layers", tape(layers, text).fault(), want);
    }

    /** What a text becomes: its five settings, or "refused". */
    private static void becomes(int layers, String text, String want) {
        CopperBoard b = tape(layers, text);
        StringBuilder got = new StringBuilder();
        if (b.sort() != 0) {
            got.append("refused");
        }
        for (int what = 0; what < 5 && got.indexOf("refused") < 0; what++) {
            got.append(what > 0 ? " " : "").append(told(b, 0, what));
        }
        same("\"" + text + "\" with " + layers + " layers", got.toString(), want);
    }

    // ---- promise 1

    private static void size(int wide, int deep, int layers, String want) {
        CopperBoard b = new CopperBoard(wide, deep, layers);
        same("new CopperBoard(" + wide + ", " + deep + ", " + layers + ")",
                b.count(3) + " " + b.count(4) + " " + b.count(5), want);
        int x = b.count(3) - 1;
        int y = b.count(4) - 1;
        int layer = b.count(5) - 1;
        due("the last cell", b.copper(x, y, layer), 0);
        due("a cell east of it", b.copper(x + 1, y, layer), -1);
        due("a cell south of it", b.copper(x, y + 1, layer), -1);
        due("a cell below it", b.copper(x, y, layer + 1), -1);
    }

    private static void sizes() {
        test(1, "A board so wide and deep (2 .. 9 each; else the nearest)", () -> {
            size(2, 2, 1, "2 2 1");
            size(9, 9, 4, "9 9 4");
            size(2, 9, 2, "2 9 2");
            size(9, 2, 3, "9 2 3");
            size(1, 5, 1, "2 5 1");
            size(5, 1, 1, "5 2 1");
            size(0, 5, 1, "2 5 1");
            size(5, 0, 1, "5 2 1");
            size(-1, -9, 1, "2 2 1");
            size(MIN, 5, 1, "2 5 1");
            size(5, MIN, 1, "5 2 1");
            size(10, 5, 1, "9 5 1");
            size(5, 10, 1, "5 9 1");
            size(MAX, 5, 1, "9 5 1");
            size(5, MAX, 1, "5 9 1");
        });
        test(1, "of LAYERS (1 .. 4; likewise)", () -> {
            size(3, 3, 1, "3 3 1");
            size(3, 3, 4, "3 3 4");
            size(3, 3, 0, "3 3 1");
            size(3, 3, -1, "3 3 1");
            size(3, 3, MIN, "3 3 1");
            size(3, 3, 5, "3 3 4");
            size(3, 3, MAX, "3 3 4");
        });
        test(1, "THE BOARD has CELLS x, y, LAYER (x to the east, y to the south, from 0)", () -> {
            CopperBoard b = board(4, 3, 2, "s 1");
            due("the first cell", b.copper(0, 0, 0), 0);
            due("west of it", b.copper(-1, 0, 0), -1);
            due("north of it", b.copper(0, -1, 0), -1);
            due("above it", b.copper(0, 0, -1), -1);
            b.wire(0, 1, 0, 2, 0, 1);
            b.wire(0, 0, 1, 0, 2, 0);
            same("upper", picture(b, 0), "..../1.../1...");
            same("lower", picture(b, 1), ".11./..../....");
        });
        test(1, "An object is used for at most 512 calls after it has been made", () -> {
            CopperBoard b = board(9, 9, 4, "s 1,v 1,b 1");
            pins(b, 0, 0, 0);
            b.pin(0, 8, 8, 3);
            for (int call = 5; call < 511; call++) {
                due("call " + call, call % 2 == 0 ? b.lay(0) : b.cost(0, true), 16 + 3 + 1);
            }
            due("call 511", b.lay(0), 20);
            due("call 512", b.about(0, 1), 3);
        });
    }

    // ---- promises 2 and 3

    private static CopperBoard blanksOnTape(int many) {
        CopperBoard b = new CopperBoard(3, 3, 1);
        for (int i = 0; i < many; i++) {
            b.feed(32, 0, 0, 0, 0);
        }
        return b;
    }

    private static void feeding() {
        test(2, "Twenty bytes more come to the TAPE (of each number the highest first; bytes of 0 are left out): "
                + "how many it has.", () -> {
            CopperBoard b = new CopperBoard(3, 3, 2);
            due("twenty", b.feed(0x73203920, 0x2c762039, 0x392c6220, 0x39392c63, 0x20322c6c), 20);
            due("three more", b.feed(0, 0x31003000, 0, 0x00000020, 0), 23);
            due("class", b.sort(), 0);
            same("its settings", told(b, 0, 0) + " " + told(b, 0, 1) + " " + told(b, 0, 2) + " " + told(b, 0, 3) + " "
                    + told(b, 0, 4), "9 99 99 2 3");
            due("one byte of each number", b.feed(0x73, 0x3500, 0x2c0000, 0x76000000, 0x37), 5);
            due("class", b.sort(), 1);
            due("step", told(b, 1, 0), 5);
            due("via", told(b, 1, 1), 7);
            due("the lowest byte first would be wrong", b.feed(0x31207300, 0, 0, 0, 0), 3);
            due("fault", b.fault(), 0);
        });
        test(2, "bytes of 0 are left out", () -> {
            CopperBoard b = new CopperBoard(3, 3, 1);
            due("nothing", b.feed(0, 0, 0, 0, 0), 0);
            due("fault of nothing", b.fault(), 0);
            due("one", b.feed(0, 0, 0x00730000, 0, 0), 1);
            due("nothing more", b.feed(0, 0, 0, 0, 0), 1);
            due("the rest", b.feed(0x00000031, 0, 0, 0, 0), 2);
            due("fault", b.fault(), -1);
        });
        test(2, "Twenty bytes more come to the TAPE", () -> {
            CopperBoard b = new CopperBoard(3, 3, 1);
            due("all bits", b.feed(-1, -1, -1, -1, -1), 20);
            due("the highest bits", b.feed(MIN, MIN, MIN, MIN, MIN), 25);
            due("the highest and the lowest", b.feed(0x80000001, 0, 0, 0, 0), 27);
            due("byte 255 is none of a class", b.fault(), 0);
        });
        test(2, "NONE: more than 80.", () -> {
            int blank = 0x20202020;
            CopperBoard b = new CopperBoard(3, 3, 1);
            for (int i = 1; i <= 4; i++) {
                due("twenty", b.feed(blank, blank, blank, blank, blank), 20 * i);
            }
            due("nothing to the full tape", b.feed(0, 0, 0, 0, 0), 80);
            due("the last one", blanksOnTape(79).feed(0, 0, 0, 0, 32), 80);
            due("the last twenty", blanksOnTape(60).feed(blank, blank, blank, blank, blank), 80);
            for (int place = 0; place < 5; place++) {
                int[] w = {0, 0, 0, 0, 0};
                w[place] = 1;
                refused(() -> blanksOnTape(80), "one more", c -> c.feed(w[0], w[1], w[2], w[3], w[4]));
                w[place] = 0x01010000;
            }
            refused(() -> blanksOnTape(79), "two more", c -> c.feed(0, 0x73000000, 0, 0x31, 0));
            refused(() -> blanksOnTape(61), "twenty more", c -> c.feed(blank, blank, blank, blank, blank));
        });
    }

    private static void ending() {
        test(3, "The TAPE has its first n bytes alone.", () -> {
            CopperBoard b = tape(1, "s 5, v 3");
            due("all of them", b.end(8), true);
            due("bytes", b.count(2), 8);
            due("fault", b.fault(), -1);
            due("less", b.end(4), true);
            due("bytes", b.count(2), 4);
            due("fault", b.fault(), 4);
            due("the first three", b.end(3), true);
            due("what was behind does not come back", feed(b, "x"), 4);
            due("fault", b.fault(), 3);
            due("none", b.end(0), true);
            due("bytes", b.count(2), 0);
            due("none of none", b.end(0), true);
            CopperBoard full = blanksOnTape(80);
            due("all 80", full.end(80), true);
            due("79", full.end(79), true);
            due("one more", full.feed(32, 0, 0, 0, 0), 80);
        });
        test(3, "False: n.", () -> {
            Supplier<CopperBoard> eight = () -> tape(1, "s 5, v 3");
            for (int n : new int[] {-1, 9, 80, 81, MIN, MAX}) {
                refusedFalse(eight, "end(" + n + ")", b -> b.end(n));
            }
            refusedFalse(() -> tape(1, ""), "end(1) of nothing", b -> b.end(1));
            refusedFalse(() -> blanksOnTape(80), "end(81)", b -> b.end(81));
        });
    }

    // ---- promise 4 with what it says of texts

    private static void settings() {
        test(4, "SETTINGS with , between, one at least, each letter once at most", () -> {
            fault(1, "", 0);
            fault(1, ",", 0);
            fault(1, ",s 1", 0);
            fault(1, "s 1", -1);
            fault(1, "s 1,", 4);
            fault(1, "s 1,,v 2", 4);
            fault(1, "s 1v 2", 3);
            fault(1, "s 1;v 2", 3);
            fault(1, "s1,v1,b1,c1,l0", -1);
            fault(1, "l0,c1,b1,v1,s1", -1);
            fault(1, "s1,v1,b1,c1,l0,", 15);
            fault(1, "s1,v1,b1,c1,l0,s1", 15);
        });
        test(4, "s N (a STEP's cost, 1 .. 9; 1 without)", () -> {
            becomes(1, "s 1", "1 5 0 0 1");
            becomes(1, "s 9", "9 5 0 0 1");
            becomes(1, "s 0", "refused");
            becomes(1, "s 10", "refused");
            becomes(1, "s 09", "9 5 0 0 1");
            becomes(1, "v 5", "1 5 0 0 1");
            fault(1, "s 0", 2);
            fault(1, "s 10", 3);
        });
        test(4, "v N (a VIA's, 0 .. 99; 5)", () -> {
            becomes(1, "v 0", "1 0 0 0 1");
            becomes(1, "v 99", "1 99 0 0 1");
            becomes(1, "v 100", "refused");
            becomes(1, "b 1", "1 5 1 0 1");
        });
        test(4, "b N (a BEND's, 0 .. 99; 0)", () -> {
            becomes(1, "b 0", "1 5 0 0 1");
            becomes(1, "b 99", "1 5 99 0 1");
            becomes(1, "b 100", "refused");
            becomes(1, "c 1", "1 5 0 1 1");
        });
        test(4, "c N (CLEAR, 0 .. 2; 0)", () -> {
            becomes(1, "c 0", "1 5 0 0 1");
            becomes(1, "c 2", "1 5 0 2 1");
            becomes(1, "c 3", "refused");
            becomes(1, "c 02", "1 5 0 2 1");
            becomes(1, "s 2", "2 5 0 0 1");
            fault(1, "c 3", 2);
            fault(1, "c 9", 2);
        });
        test(4, "N of one or two digits", () -> {
            fault(1, "s", 1);
            fault(1, "s ", 2);
            fault(1, "s,", 1);
            fault(1, "s ,v 1", 2);
            fault(1, "sv", 1);
            fault(1, "v 7", -1);
            fault(1, "v 07", -1);
            fault(1, "v 007", 4);
            fault(1, "v 00", -1);
            fault(1, "v -1", 2);
            fault(1, "v +1", 2);
            fault(1, "v 1.", 3);
            fault(1, "v /", 2);
            fault(1, "v :", 2);
            fault(1, "v 9/", 3);
            fault(1, "v 9:", 3);
        });
        test(4, "l and LAYERS, one digit each, that there are, none twice (all without)", () -> {
            becomes(1, "l 0", "1 5 0 0 1");
            becomes(4, "l 3", "1 5 0 0 8");
            becomes(4, "l 0123", "1 5 0 0 15");
            becomes(4, "l 3 2 1 0", "1 5 0 0 15");
            becomes(4, "l10", "1 5 0 0 3");
            becomes(4, "l 30,s 2", "2 5 0 0 9");
            becomes(4, "s 1", "1 5 0 0 15");
            becomes(3, "s 1", "1 5 0 0 7");
            becomes(2, "s 1", "1 5 0 0 3");
            becomes(1, "s 1", "1 5 0 0 1");
            fault(2, "l", 1);
            fault(2, "l ", 2);
            fault(2, "l,", 1);
            fault(2, "l x", 2);
            fault(2, "l 0x", 3);
        });
    }

    private static void blanks() {
        test(4, "Blanks (32) may stand between all these, not within N.", () -> {
            fault(2, "s1,v2,b3,c1,l01", -1);
            fault(2, "s  1  ,  v  2  ,  l  0  1", -1);
            fault(2, "s 1 2", 4);
            fault(2, "v 1 2", 4);
            fault(2, "v 9 ", -1);
            fault(2, " s 1", -1);
            fault(2, "s\t1", 1);
            fault(2, "s 1\t", 3);
            fault(2, "s\n1", 1);
            fault(2, "\u00a0s 1", 0);
            fault(2, "l 0 1 0", 6);
            fault(2, "l 0 1 ,s 3", -1);
            fault(2, "s 1 v 2", 4);
            fault(2, "s 1 , , v 2", 6);
            fault(2, "s 1,   ", 7);
            fault(2, "   ", 3);
        });
        test(4, "Blanks (32) may stand between all these", () -> {
            fault(1, "s" + " ".repeat(78) + "9", -1);
            fault(1, "s" + " ".repeat(79), 80);
            fault(1, " ".repeat(80), 80);
            fault(1, "s 1" + " ".repeat(76) + ",", 80);
            fault(1, "v 1" + " ".repeat(75) + "99", 78);
        });
    }

    private static void faults() {
        test(4, "FAULT: the first byte at which no CLASS can go on (the length, if it ends too early)", () -> {
            fault(1, "x", 0);
            fault(1, "S 1", 0);
            fault(1, "1", 0);
            fault(1, "sx", 1);
            fault(1, "ss", 1);
            fault(1, "s 1x,y", 3);
            fault(1, "s 1,x", 4);
            fault(1, "s 1,v", 5);
            fault(1, "s 1,v ", 6);
            fault(1, "s 1,v x,b y", 6);
            fault(1, "\u00f3 1", 0);
            fault(1, "s \u00b1", 2);
            fault(1, "s 1\u00ac", 3);
            due("nothing was fed", new CopperBoard(2, 2, 1).fault(), 0);
        });
        test(4, "N out of bounds is wrong at its last digit", () -> {
            fault(1, "s 0", 2);
            fault(1, "s 0,", 2);
            fault(1, "s 0 ", 2);
            fault(1, "s 00", 3);
            fault(1, "s 0x", 2);
            fault(1, "s 10", 3);
            fault(1, "s 99", 3);
            fault(1, "s 11,x", 3);
            fault(1, "c 3", 2);
            fault(1, "c 03", 3);
            fault(1, "c 10", 3);
            fault(1, "c 20,", 3);
            fault(1, "v 1,s0", 5);
            fault(1, "v 1,s12", 6);
        });
        test(4, "a third digit", () -> {
            fault(1, "v 100", 4);
            fault(1, "v 000", 4);
            fault(1, "b 001", 4);
            fault(1, "s 001", 3);
            fault(1, "s 010", 4);
            fault(1, "s 090", 4);
            fault(1, "c 002", 4);
            fault(1, "v 1000", 4);
            fault(1, "v 100,s 0", 4);
        });
        test(4, "a letter for the second time", () -> {
            fault(1, "s 1,s 1", 4);
            fault(1, "v 1,v 1", 4);
            fault(1, "b 1,b 1", 4);
            fault(1, "c 1,c 1", 4);
            fault(1, "l 0,l 0", 4);
            fault(1, "s 1,v 1,s", 8);
            fault(1, "v 1, v", 5);
            fault(2, "l 0,s 1,l 1", 8);
        });
        test(4, "a LAYER that there is not or for the second time are wrong", () -> {
            fault(1, "l 1", 2);
            fault(2, "l 1", -1);
            fault(2, "l 2", 2);
            fault(3, "l 2", -1);
            fault(3, "l 3", 2);
            fault(4, "l 3", -1);
            fault(4, "l 4", 2);
            fault(4, "l 9", 2);
            fault(4, "l 0124", 5);
            fault(4, "l 00", 3);
            fault(4, "l 3213", 5);
            fault(4, "l 3 2 1 3", 8);
            fault(4, "l 01234", 6);
        });
        test(4, "The FAULT of the TAPE; NONE.", () -> {
            quiet(() -> tape(1, "s 1,v"), "fault()", b -> b.fault(), 5);
            quiet(() -> tape(1, "s 1"), "fault()", b -> b.fault(), -1);
            quiet(() -> tape(1, ""), "fault()", b -> b.fault(), 0);
        });
    }

    // ---- promises 5 and 6

    private static CopperBoard classes(int many, String tape) {
        CopperBoard b = new CopperBoard(3, 3, 2);
        for (int i = 0; i < many; i++) {
            sort(b, "v " + (10 + i));
        }
        feed(b, tape);
        return b;
    }

    private static void sorting() {
        test(5, "The TAPE (empty then; if refused it stays) is a CLASS: its number.", () -> {
            CopperBoard b = classes(0, "s 3");
            due("sort()", b.sort(), 0);
            due("the tape is empty", b.count(2), 0);
            due("its fault", b.fault(), 0);
            due("of an empty tape", b.sort(), -1);
            due("a full tape", feed(b, "v" + " ".repeat(77) + "42"), 80);
            due("sort()", b.sort(), 1);
            due("the tape is empty", b.count(2), 0);
            due("via", told(b, 1, 1), 42);
            due("step is not that of the class before", told(b, 1, 0), 1);
            due("the tape takes 80 again", feed(b, " ".repeat(80)), 80);
        });
        test(5, "NONE: a FAULT, there are six.", () -> {
            refused(() -> classes(1, ""), "sort() of nothing", b -> b.sort());
            refused(() -> classes(1, "s 1,"), "sort() too early", b -> b.sort());
            refused(() -> classes(1, "s 0"), "sort() out of bounds", b -> b.sort());
            refused(() -> classes(1, "l 2"), "sort() without the layer", b -> b.sort());
            refused(() -> classes(1, "s 7,v 1,s 2"), "sort() of a fault", b -> b.sort());
            refused(() -> classes(6, "s 1"), "a seventh", b -> b.sort());
            refused(() -> classes(6, "x"), "a seventh of a fault", b -> b.sort());
        });
        test(5, "CLASSES (6 at most) are TEXTS", () -> {
            CopperBoard b = new CopperBoard(3, 3, 2);
            for (int i = 0; i < 6; i++) {
                due("class " + i, sort(b, "v " + (10 + i)), i);
                due("classes", b.count(0), i + 1);
            }
            due("a seventh", sort(b, "v 16"), -1);
            due("classes", b.count(0), 6);
            for (int i = 0; i < 6; i++) {
                due("via of " + i, told(b, i, 1), 10 + i);
            }
        });
    }

    private static void telling() {
        test(6, "Of a CLASS: 0 STEP, 1 VIA, 2 BEND, 3 CLEAR, 4 LAYERS as bits.", () -> {
            becomes(4, "s 9,v 99,b 98,c 2,l 31", "9 99 98 2 10");
            becomes(4, "s 1,v 0,b 0,c 0,l 0", "1 0 0 0 1");
            becomes(4, "l 321", "1 5 0 0 14");
            CopperBoard b = classes(6, "");
            due("the last class", told(b, 5, 1), 15);
        });
        test(6, "NoSuchElementException: no such ones.", () -> {
            int[][] bad = {{-1, 0}, {3, 0}, {0, -1}, {0, 5}, {MIN, 0}, {MAX, 0}, {0, MIN}, {0, MAX}, {6, 4}, {2, 5}, {-1, -1}};
            for (int[] t : bad) {
                quiet(Bounds::rich, "told(" + t[0] + ", " + t[1] + ")", b -> told(b, t[0], t[1]), NO_SUCH);
            }
            quiet(() -> new CopperBoard(2, 2, 1), "told(0, 0) without classes", b -> told(b, 0, 0), NO_SUCH);
            quiet(Bounds::full, "told(6, 0)", b -> told(b, 6, 0), NO_SUCH);
            quiet(Bounds::rich, "told(2, 4)", b -> told(b, 2, 4), 3);
        });
    }
}
