import java.util.function.Supplier;

/** Boundary cases of promises 24 to 29: lengths made alike, planes and ways back. */
final class BoundsShapes extends Bounds {
    static void all() {
        stretchSides();
        stretchLengths();
        stretchRefused();
        span();
        equal();
        planes();
        necks();
        spokes();
        back();
    }

    // ---- promise 24

    /** A net of one step from the middle, kept cells told as x, y, x, y. */
    private static String bent(int x, int y, int... kept) {
        CopperBoard b = board(3, 3, 1, "s 1");
        pins(b, 0, x, y, 1, 1);
        b.lay(0);
        for (int i = 0; i < kept.length; i += 2) {
            keep(b, kept[i], kept[i + 1], 0);
        }
        return b.stretch(0, 200) + " " + picture(b, 0);
    }

    private static void stretchSides() {
        test(24, "if the two CELLS beside it to the left (else to the right) are FREE and without COPPER of its own, "
                + "the way goes by these (LENGTH 2 more)", () -> {
            same("north, to the west", bent(1, 0), "3 11./11./...");
            same("north, the first kept", bent(1, 0, 0, 1), "3 .11/.11/...");
            same("north, the second kept", bent(1, 0, 0, 0), "3 .11/.11/...");
            same("north, neither", bent(1, 0, 0, 0, 2, 1), "1 .1./.1./...");
            same("north, neither", bent(1, 0, 0, 1, 2, 0), "1 .1./.1./...");
            same("east, to the north", bent(2, 1), "3 .11/.11/...");
            same("east, the first kept", bent(2, 1, 1, 0), "3 .../.11/.11");
            same("east, the second kept", bent(2, 1, 2, 0), "3 .../.11/.11");
            same("east, neither", bent(2, 1, 1, 0, 2, 2), "1 .../.11/...");
            same("south, to the east", bent(1, 2), "3 .../.11/.11");
            same("south, the first kept", bent(1, 2, 2, 1), "3 .../11./11.");
            same("south, the second kept", bent(1, 2, 2, 2), "3 .../11./11.");
            same("south, neither", bent(1, 2, 2, 1, 0, 2), "1 .../.1./.1.");
            same("west, to the south", bent(0, 1), "3 .../11./11.");
            same("west, the first kept", bent(0, 1, 1, 2), "3 11./11./...");
            same("west, the second kept", bent(0, 1, 0, 2), "3 11./11./...");
            same("west, neither", bent(0, 1, 0, 2, 1, 0), "1 .../11./...");
        });
        test(24, "to the left (else to the right)", () -> {
            CopperBoard b = board(3, 2, 1, "s 1");
            pins(b, 0, 2, 0, 0, 0);
            b.lay(0);
            due("to the east the left is off the board", b.stretch(0, 200), 4);
            same("the second step has no room then", picture(b, 0), "111/11.");
            CopperBoard c = board(2, 3, 1, "s 1");
            pins(c, 0, 0, 2, 0, 0);
            c.lay(0);
            due("southward", c.stretch(0, 200), 4);
            same("to the east", picture(c, 0), "11/11/1.");
            CopperBoard d = board(2, 3, 2, "s 1");
            pins(d, 0, 1, 2, 1, 1);
            d.lay(0);
            due("not the next row's first, nor the layer below", d.stretch(0, 200), 3);
            same("to the west", picture(d, 0), "../11/11");
            CopperBoard e = board(2, 2, 1, "s 1", "s 1");
            pins(e, 0, 0, 0, 1, 0);
            e.pin(1, 0, 1, 0);
            e.lay(0);
            due("one side off the board, the other taken", e.stretch(0, 200), 1);
        });
        test(24, "are FREE and without COPPER of its own", () -> {
            CopperBoard b = board(5, 5, 1, "s 1", "c 1");
            pins(b, 0, 2, 2, 2, 3);
            b.lay(0);
            b.pin(1, 0, 1, 0);
            due("the left is too near to another net", b.stretch(0, 9), 3);
            same("to the right", picture(b, 0), "...../2..../..11./..11./.....");
            CopperBoard c = board(3, 3, 1, "s 1", "s 1");
            pins(c, 0, 1, 0, 1, 1);
            c.lay(0);
            pins(c, 1, 0, 0, 0, 2);
            c.lay(1);
            due("a trace to the left", c.stretch(0, 9), 3);
            same("to the right", picture(c, 0), "211/211/2..");
            CopperBoard d = board(3, 4, 1, "s 1");
            pins(d, 0, 0, 3, 2, 3);
            keep(d, 1, 3, 0);
            keep(d, 1, 2, 0);
            d.lay(0);
            due("a bow", d.about(0, 0), 6);
            // North twice with the kept cells to the left; west twice: left is the inside, right the first row.
            due("its own legs are near", d.stretch(0, 200), 8);
            same("above", picture(d, 0), ".11/111/1.1/1.1");
        });
        test(24, "are FREE and without COPPER of its own", () -> {
            CopperBoard b = board(3, 2, 1, "s 1", "s 1");
            pins(b, 0, 0, 0, 1, 0);
            b.lay(0);
            due("to the first cell of all", b.stretch(0, 200), 3);
            due("length", b.about(0, 0), 3);
            due("delay", b.delay(0), 3);
            due("cells", b.about(0, 2), 4);
            CopperBoard c = board(4, 4, 1, "s 1", "s 1");
            pins(c, 1, 0, 1, 3, 1);
            pins(c, 0, 0, 2, 3, 2);
            c.lay(0);
            c.lay(1);
            due("net 1 above net 0", c.stretch(1, 200), 7);
            same("to the right twice", picture(c, 0), "2222/2222/1111/....");
            due("net 0 below", c.stretch(0, 5), 5);
            CopperBoard d = board(3, 4, 1, "s 1", "s 1");
            pins(d, 1, 0, 3, 2, 3);
            keep(d, 1, 3, 0);
            keep(d, 1, 2, 0);
            d.lay(1);
            due("net 1's own legs are near", d.stretch(1, 200), 8);
            same("above", picture(d, 0), ".22/222/2.2/2.2");
        });
        test(24, "the new STEPS are not looked at", () -> {
            CopperBoard b = board(9, 9, 1, "s 1");
            pins(b, 0, 4, 4, 4, 5);
            b.lay(0);
            due("one step", b.stretch(0, 200), 3);
            due("three steps in the next call", b.stretch(0, 200), 9);
            CopperBoard c = board(5, 5, 3, "s 1,v 1");
            c.pin(0, 2, 2, 2);
            c.pin(0, 2, 2, 0);
            c.lay(0);
            due("vias are no steps", c.stretch(0, 200), 0);
            due("length", c.about(0, 1), 2);
            CopperBoard d = board(5, 5, 2, "s 1,v 1");
            d.pin(0, 3, 2, 1);
            d.pin(0, 2, 2, 0);
            d.lay(0);
            due("the step ahead of a via", d.stretch(0, 200), 3);
            due("vias", d.about(0, 1), 1);
            same("in its layer", picture(d, 0), "...../..11./..11./...../.....");
        });
    }

    private static CopperBoard straight() {
        CopperBoard b = board(6, 3, 1, "s 1", "s 1");
        pins(b, 0, 0, 1, 5, 1);
        b.lay(0);
        return b;
    }

    private static void stretchLengths() {
        test(24, "if it is no more than was told then", () -> {
            int[] then = {5, 5, 5, 5, 5, 5, 5, 7, 7, 9, 9, 11, 11, 13, 13, 15, 15, 15};
            for (int told = 0; told < then.length; told++) {
                CopperBoard b = straight();
                due("stretch(0, " + told + ")", b.stretch(0, told), then[told]);
                due("length", b.about(0, 0), then[told]);
            }
            CopperBoard b = straight();
            due("one bend", b.stretch(0, 7), 7);
            same("the first step from the second pin on", picture(b, 0), "....../111111/....11");
            b = straight();
            due("two bends", b.stretch(0, 9), 9);
            same("the second step's left is taken", picture(b, 0), "...11./111111/....11");
        });
        test(24, "STRETCH to a LENGTH of so many at most (0 .. 200): the LENGTH then.", () -> {
            due("200", straight().stretch(0, 200), 15);
            quiet(BoundsShapes::straight, "stretch(0, 0)", b -> b.stretch(0, 0), 5);
            quiet(BoundsShapes::straight, "stretch(0, 6)", b -> b.stretch(0, 6), 5);
            CopperBoard b = longOne();
            due("length", b.about(0, 0), 200);
            due("no more than 200", b.stretch(0, 200), 200);
        });
        test(24, "STRETCH to a LENGTH of so many at most", () -> {
            CopperBoard b = board(2, 2, 1, "s 1", "s 1");
            pins(b, 0, 0, 0, 1, 0);
            b.lay(0);
            due("the whole board", b.stretch(0, 200), 3);
            due("no more cells", b.stretch(0, 200), 3);
            due("span", b.span(0), 3);
            due("none beside", b.pair(0, 1, 2), 0);
            due("cells", b.about(0, 2), 4);
        });
        test(24, "along its TRACE from the second PIN on (up to where it ends)", () -> {
            CopperBoard b = board(6, 3, 1, "s 1");
            pins(b, 0, 0, 1, 5, 1);
            b.wire(0, 0, 1, 2, 1, 0);
            b.lay(0);
            b.unwire(0);
            due("it ends on the way", b.about(0, 0), 3);
            due("span", b.span(0), 9);
            due("stretch", b.stretch(0, 200), 9);
            same("bends to its end", picture(b, 0), "...11./1.1111/..1111");
        });
    }

    /** A trace along one side of each layer, made longer turn by turn up to 200; then it has room for more. */
    private static CopperBoard longOne() {
        CopperBoard b = board(9, 9, 4, "s 1,v 1", "s 1");
        b.pin(0, 8, 0, 3);
        b.pin(0, 8, 0, 0);
        // Net 1 leaves the first row of layer 0, then the first column, the last row and the last column below.
        b.wire(1, 0, 1, 8, 1, 0);
        b.wire(1, 1, 0, 8, 0, 1);
        b.wire(1, 1, 0, 1, 8, 1);
        b.wire(1, 0, 0, 0, 7, 2);
        b.wire(1, 0, 7, 8, 7, 2);
        b.wire(1, 8, 0, 8, 7, 2);
        b.wire(1, 0, 8, 7, 8, 3);
        b.wire(1, 7, 0, 7, 8, 3);
        b.lay(0);
        b.unwire(1);
        for (int i = 0; i < 12; i++) {
            b.stretch(0, 200);
        }
        return b;
    }

    private static void stretchRefused() {
        test(24, "NONE: not such a NET, out of bounds.", () -> {
            for (int length : new int[] {-1, 201, MIN, MAX}) {
                refused(BoundsShapes::straight, "stretch(0, " + length + ")", b -> b.stretch(0, length));
            }
            for (int net : new int[] {1, 2, 8, -1, MIN, MAX}) {
                refused(BoundsShapes::straight, "stretch(" + net + ", 9)", b -> b.stretch(net, 9));
            }
            refused(Bounds::rich, "with wires and traces", b -> b.stretch(2, 99));
        });
        test(24, "STRETCH of a NET of two PINS, without WIRES, laid", () -> {
            Supplier<CopperBoard> ripped = () -> {
                CopperBoard b = straight();
                b.rip(0);
                return b;
            };
            refused(ripped, "not laid", b -> b.stretch(0, 9));
            refused(ripped, "not laid", b -> b.span(0));
            Supplier<CopperBoard> three = () -> {
                CopperBoard b = straight();
                pins(b, 0, 3, 1);
                return b;
            };
            refused(three, "three pins", b -> b.stretch(0, 9));
            refused(three, "three pins", b -> b.span(0));
            Supplier<CopperBoard> wired = () -> {
                CopperBoard b = straight();
                b.wire(0, 0, 0, 1, 0, 0);
                return b;
            };
            refused(wired, "a wire", b -> b.stretch(0, 9));
            refused(wired, "a wire", b -> b.span(0));
            Supplier<CopperBoard> holed = () -> {
                CopperBoard b = board(3, 3, 2, "s 1");
                pins(b, 0, 0, 1, 2, 1);
                b.lay(0);
                b.hole(0, 2, 2, 0);
                return b;
            };
            refused(holed, "a hole", b -> b.stretch(0, 9));
            quiet(() -> {
                CopperBoard b = wired.get();
                b.unwire(0);
                return b;
            }, "without it", b -> b.span(0), 15);
            Supplier<CopperBoard> one = () -> {
                CopperBoard b = board(3, 3, 1, "s 1");
                pins(b, 0, 1, 1);
                b.lay(0);
                return b;
            };
            refused(one, "one pin", b -> b.stretch(0, 9));
            refused(one, "one pin", b -> b.span(0));
        });
    }

    // ---- promises 25 and 26

    private static void span() {
        test(25, "SPAN: the LENGTH that it would have, if as much as one likes were told.", () -> {
            quiet(BoundsShapes::straight, "span(0)", b -> b.span(0), 15);
            CopperBoard b = longOne();
            due("more than 200", b.span(0) > 200, true);
            due("nothing changes", b.about(0, 0), 200);
            Supplier<CopperBoard> via = () -> {
                CopperBoard c = board(3, 3, 2, "s 1");
                c.pin(0, 1, 1, 0);
                c.pin(0, 1, 1, 1);
                c.lay(0);
                return c;
            };
            quiet(via, "a via alone", c -> c.span(0), 0);
        });
        test(25, "NONE: not such a NET.", () -> {
            for (int net : new int[] {1, 2, 8, -1, MIN, MAX}) {
                refused(BoundsShapes::straight, "span(" + net + ")", b -> b.span(net));
            }
            for (int net = 1; net < 4; net++) {
                int n = net;
                refused(Bounds::rich, "span(" + n + ")", b -> b.span(n));
            }
        });
    }

    private static void equal() {
        test(26, "Whether LENGTHS of NETS (bits, not 0) differ by so much (0 .. 200) at most (1, 0).", () -> {
            Supplier<CopperBoard> made = () -> {
                CopperBoard b = board(8, 4, 1, "s 1", "s 1", "s 1", "s 1");
                pins(b, 0, 0, 0, 7, 0);
                pins(b, 1, 0, 1, 4, 1);
                pins(b, 2, 0, 2, 5, 2);
                for (int net = 0; net < 3; net++) {
                    b.lay(net);
                }
                return b;
            };
            int[][] sets = {{1, 0}, {2, 0}, {8, 0}, {3, 3}, {6, 1}, {5, 2}, {7, 3}, {15, 7}, {10, 4}, {9, 7}};
            for (int[] s : sets) {
                quiet(made, "equal(" + s[0] + ", " + s[1] + ")", b -> b.equal(s[0], s[1]), 1);
                if (s[1] > 0) {
                    quiet(made, "equal(" + s[0] + ", less)", b -> b.equal(s[0], s[1] - 1), 0);
                }
                quiet(made, "equal(" + s[0] + ", 200)", b -> b.equal(s[0], 200), 1);
            }
            CopperBoard b = longOne();
            due("200 and 0 by 199", b.equal(3, 199), 0);
            due("200 and 0 by 200", b.equal(3, 200), 1);
            due("one by 0", b.equal(1, 0), 1);
        });
        test(26, "NONE: no such ones.", () -> {
            int[][] bad = {{0, 0}, {0, 200}, {16, 0}, {17, 0}, {255, 0}, {256, 5}, {-1, 0}, {MIN, 0}, {MAX, 0}, {1, -1},
                {1, 201}, {1, MIN}, {1, MAX}};
            for (int[] e : bad) {
                refused(Bounds::rich, "equal(" + e[0] + ", " + e[1] + ")", b -> b.equal(e[0], e[1]));
            }
            refused(() -> new CopperBoard(2, 2, 1), "equal(1, 0) without nets", b -> b.equal(1, 0));
            String[] texts = {"s 1", "s 1", "s 1", "s 1", "s 1", "s 1", "s 1", "s 1"};
            quiet(() -> board(2, 2, 1, texts), "all eight", b -> b.equal(255, 0), 1);
            refused(() -> board(2, 2, 1, texts), "a ninth", b -> b.equal(511, 0));
        });
    }

    // ---- promises 27 to 29

    private static void plane(CopperBoard b, int net, int layer, String want) {
        same("plane(" + net + ", " + layer + ", ..)", b.plane(net, layer, 0) + " " + b.plane(net, layer, 1) + " "
                + b.plane(net, layer, 2) + " " + b.plane(net, layer, 3), want);
    }

    private static void planes() {
        test(27, "PLANE of a NET in a LAYER: CELLS FREE for it there (as if its CLASS had that LAYER)", () -> {
            CopperBoard b = board(9, 9, 4, "l 0", "c 1");
            for (int layer = 0; layer < 4; layer++) {
                plane(b, 0, layer, "81 0 1 0");
            }
            b.pin(1, 4, 4, 3);
            plane(b, 0, 3, "72 0 1 0");
            plane(b, 1, 3, "81 1 0 0");
            b.pin(0, 5, 5, 3);
            plane(b, 0, 3, "73 1 0 0");
            plane(b, 0, 2, "81 0 1 0");
            CopperBoard d = board(4, 3, 2, "s 1", "l 1");
            pins(d, 0, 0, 1, 3, 1);
            plane(d, 0, 0, "12 1 0 0");
            d.lay(0);
            plane(d, 1, 0, "8 0 2 0");
            plane(d, 0, 0, "12 1 0 0");
            d.keep(0, 0, 3, 2, 1);
            plane(d, 0, 0, "4 1 0 0");
            d.rip(0);
            plane(d, 0, 0, "2 2 0 0");
            CopperBoard c = board(3, 3, 1, "s 1", "s 1");
            for (int y = 0; y < 3; y++) {
                c.wire(1, 0, y, 2, y, 0);
            }
            plane(c, 0, 0, "0 0 0 0");
            plane(c, 1, 0, "9 1 0 0");
            c.keep(0, 0, 2, 2, 1);
            plane(c, 1, 0, "9 1 0 0");
        });
        test(27, "neighbours north, east, south, west hang together", () -> {
            CopperBoard b = board(3, 3, 2, "s 1");
            keep(b, 1, 1, 0);
            plane(b, 0, 0, "8 0 1 0");
            b.keep(0, 0, 2, 2, 1);
            plane(b, 0, 0, "0 0 0 0");
            CopperBoard c = board(2, 2, 1, "s 1");
            keep(c, 0, 0, 0);
            keep(c, 1, 1, 0);
            plane(c, 0, 0, "2 0 2 0");
            CopperBoard d = board(3, 2, 1, "s 1");
            d.keep(0, 0, 1, 0, 1);
            d.keep(1, 1, 2, 1, 1);
            plane(d, 0, 0, "2 0 2 0");
            CopperBoard e = board(3, 3, 2, "s 1");
            e.keep(0, 1, 2, 1, 1);
            plane(e, 0, 0, "6 0 2 0");
            plane(e, 0, 1, "9 0 1 0");
        });
        test(27, "PARTS with COPPER of its own, ISLANDS without", () -> {
            CopperBoard b = board(5, 5, 1, "s 1", "s 1");
            b.wire(1, 2, 0, 2, 4, 0);
            plane(b, 0, 0, "20 0 2 0");
            pins(b, 0, 0, 0);
            plane(b, 0, 0, "20 1 1 0");
            pins(b, 0, 4, 4);
            plane(b, 0, 0, "20 2 0 0");
            pins(b, 0, 4, 0);
            plane(b, 0, 0, "20 2 0 0");
            b.wire(0, 1, 1, 3, 1, 0);
            plane(b, 0, 0, "21 1 0 0");
        });
        test(27, "PLANE of a NET in a LAYER: 0 CELLS, 1 PARTS, 2 ISLANDS, 3 NECKS. NONE: no such ones.", () -> {
            int[][] bad = {{4, 0, 0}, {-1, 0, 0}, {8, 0, 0}, {MIN, 0, 0}, {MAX, 0, 0}, {0, 2, 0}, {0, -1, 0}, {0, MIN, 0},
                {0, MAX, 0}, {0, 0, 4}, {0, 0, -1}, {0, 0, MIN}, {0, 0, MAX}};
            for (int[] p : bad) {
                refused(Bounds::rich, "plane(" + p[0] + ", " + p[1] + ", " + p[2] + ")", b -> b.plane(p[0], p[1], p[2]));
            }
        });
    }

    private static void necks() {
        test(27, "NECK: a CELL without its own COPPER by whose loss there are more PARTS", () -> {
            CopperBoard b = board(5, 2, 1, "s 1");
            b.keep(0, 1, 4, 1, 1);
            plane(b, 0, 0, "5 0 1 0");
            pins(b, 0, 0, 0);
            // Without a cell of the row its end has no copper: an island more, no part more.
            plane(b, 0, 0, "5 1 0 0");
            pins(b, 0, 4, 0);
            plane(b, 0, 0, "5 1 0 3");
            pins(b, 0, 2, 0);
            plane(b, 0, 0, "5 1 0 2");
            b.wire(0, 0, 0, 4, 0, 0);
            plane(b, 0, 0, "5 1 0 0");
            CopperBoard c = board(3, 3, 1, "s 1");
            keep(c, 0, 0, 0);
            keep(c, 2, 0, 0);
            keep(c, 0, 2, 0);
            keep(c, 2, 2, 0);
            pins(c, 0, 0, 1, 2, 1, 1, 0);
            plane(c, 0, 0, "5 1 0 1");
            CopperBoard d = board(3, 3, 1, "s 1");
            keep(d, 1, 1, 0);
            pins(d, 0, 0, 0, 2, 2);
            plane(d, 0, 0, "8 1 0 0");
            keep(d, 2, 0, 0);
            plane(d, 0, 0, "7 1 0 3");
        });
    }

    private static void spokes() {
        test(28, "SPOKES of a PIN in its LAYER: how many neighbours are in the PLANE.", () -> {
            CopperBoard b = board(4, 4, 2, "l 0", "c 1");
            b.pin(0, 0, 0, 1);
            b.pin(0, 2, 0, 1);
            b.pin(0, 2, 2, 1);
            b.pin(0, 3, 3, 0);
            due("a corner", b.spokes(0, 0), 2);
            due("a side", b.spokes(0, 1), 3);
            due("the middle", b.spokes(0, 2), 4);
            due("the last corner", b.spokes(0, 3), 2);
            keep(b, 2, 1, 1);
            due("a keepout beside", b.spokes(0, 2), 3);
            due("and on the other side", b.spokes(0, 1), 2);
            keep(b, 2, 3, 0);
            due("in another layer", b.spokes(0, 2), 3);
            b.pin(1, 0, 2, 1);
            due("another net at most clear away", b.spokes(0, 2), 2);
            due("the corner", b.spokes(0, 0), 1);
            b.wire(0, 0, 0, 0, 1, 1);
            due("its own copper is in the plane", b.spokes(0, 0), 2);
            CopperBoard c = board(3, 3, 2, "s 1");
            c.pin(0, 0, 1, 0);
            c.keep(1, 1, 1, 1, 1);
            due("not the end of the row before", c.spokes(0, 0), 2);
            CopperBoard d = board(4, 2, 2, "s 1", "s 1");
            pins(d, 0, 0, 0, 3, 0);
            d.lay(0);
            keep(d, 1, 0, 0);
            due("its trace on a keepout", d.spokes(0, 0), 2);
            d.rip(0);
            due("the keepout alone", d.spokes(0, 0), 1);
            d.pin(1, 2, 1, 0);
            due("net 1", d.spokes(1, 0), 3);
        });
        test(28, "SPOKES of a PIN. NONE: no such one.", () -> {
            int[][] bad = {{0, 2}, {0, -1}, {0, 4}, {0, MIN}, {0, MAX}, {3, 0}, {4, 0}, {-1, 0}, {8, 0}, {MIN, 0}, {MAX, 0}};
            for (int[] s : bad) {
                refused(Bounds::rich, "spokes(" + s[0] + ", " + s[1] + ")", b -> b.spokes(s[0], s[1]));
            }
            refused(Bounds::full, "spokes(7, 4)", b -> b.spokes(7, 4));
        });
    }

    private static void back() {
        test(29, "RETURN of another NET: how many CELLS of its COPPER in LAYERS next to it have no CELL of the PLANE there.",
                () -> {
            CopperBoard b = board(4, 3, 4, "s 1", "l 0", "s 1");
            b.wire(0, 0, 0, 3, 0, 0);
            due("the plane is whole", b.back(0, 1, 1), 0);
            b.keep(1, 0, 2, 0, 15);
            due("two cells are not", b.back(0, 1, 1), 2);
            due("two layers away", b.back(0, 1, 2), 0);
            due("in its own layer", b.back(0, 1, 0), 0);
            b.wire(0, 2, 0, 3, 0, 2);
            due("from both sides", b.back(0, 1, 1), 3);
            due("from above the last", b.back(0, 1, 3), 1);
            b.wire(1, 1, 0, 2, 0, 1);
            due("its own copper is in the plane", b.back(0, 1, 1), 0);
            b.wire(2, 3, 0, 3, 2, 1);
            due("copper of a third", b.back(0, 1, 1), 2);
            b.wire(0, 0, 2, 1, 2, 1);
            due("copper of the net itself", b.back(0, 1, 1), 2);
            b.wire(0, 0, 2, 0, 1, 0);
            due("above its own copper there is no plane", b.back(0, 1, 1), 3);
            CopperBoard c = board(2, 2, 1, "s 1", "s 1");
            c.pin(0, 0, 0, 0);
            due("one layer", c.back(0, 1, 0), 0);
            CopperBoard d = board(4, 2, 2, "s 1", "s 1");
            pins(d, 0, 0, 0, 3, 0);
            d.wire(1, 0, 0, 3, 0, 1);
            d.lay(0);
            d.keep(0, 0, 3, 1, 1);
            due("its trace on keepouts is in the plane", d.back(1, 0, 0), 0);
            d.rip(0);
            due("without it", d.back(1, 0, 0), 2);
            due("the other way round", d.back(0, 1, 1), 0);
        });
        test(29, "RETURN of a NET by the PLANE of another one in a LAYER. NONE: no such ones, alike.", () -> {
            int[][] bad = {{0, 0, 0}, {3, 3, 1}, {4, 0, 0}, {0, 4, 0}, {-1, 0, 0}, {0, -1, 0}, {0, 1, 2}, {0, 1, -1},
                {4, 4, 0}, {MIN, 0, 0}, {0, MAX, 0}, {0, 1, MIN}, {0, 1, MAX}};
            for (int[] r : bad) {
                refused(Bounds::rich, "back(" + r[0] + ", " + r[1] + ", " + r[2] + ")", b -> b.back(r[0], r[1], r[2]));
            }
        });
    }
}
