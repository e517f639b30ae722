import java.util.function.Supplier;

/** Boundary cases of promises 7 to 13: nets, pins, what is laid by hand, copper and free cells. */
final class BoundsNets extends Bounds {
    static void all() {
        nets();
        pins();
        keepouts();
        wires();
        holes();
        copper();
        freeCells();
        clearances();
        edges();
    }

    // ---- promises 7 and 8

    private static void nets() {
        test(7, "A NET: its number.", () -> {
            CopperBoard b = new CopperBoard(2, 2, 1);
            sort(b, "s 1");
            sort(b, "s 2");
            due("the first", b.net(1), 0);
            due("the second", b.net(0), 1);
            due("nets", b.count(1), 2);
            pins(b, 0, 0, 0, 1, 0);
            due("its own class counts", b.lay(0), 2);
        });
        test(7, "NONE: no such CLASS, there are eight.", () -> {
            refused(() -> new CopperBoard(2, 2, 1), "net(0) without classes", b -> b.net(0));
            for (int sort : new int[] {-1, 3, MIN, MAX}) {
                refused(Bounds::rich, "net(" + sort + ")", b -> b.net(sort));
            }
            refused(Bounds::full, "a ninth", b -> b.net(0));
            refused(Bounds::full, "a ninth of the last class", b -> b.net(5));
            refused(Bounds::full, "no such class", b -> b.net(6));
        });
        test(7, "NETS (8 at most) have a CLASS", () -> {
            CopperBoard b = new CopperBoard(2, 2, 1);
            sort(b, "s 1");
            for (int i = 0; i < 8; i++) {
                due("net " + i, b.net(0), i);
            }
            due("a ninth", b.net(0), -1);
            due("nets", b.count(1), 8);
        });
    }

    private static void pins() {
        test(8, "A PIN: its number in the NET.", () -> {
            CopperBoard b = board(3, 3, 2, "l 0", "s 1");
            for (int p = 0; p < 3; p++) {
                due("pin of net 0", b.pin(0, p, 0, 0), p);
                due("pin of net 1", b.pin(1, p, 2, 0), p);
            }
            due("out of the layers of its class", b.pin(0, 2, 2, 1), 3);
            due("copper", b.copper(2, 2, 1), 1);
            b.keep(0, 1, 2, 1, 1);
            due("on a keepout", b.pin(1, 1, 1, 0), 3);
        });
        test(8, "NONE: no such ones, a PIN is there, there are four.", () -> {
            int[][] bad = {{4, 1, 0, 0}, {-1, 1, 0, 0}, {MIN, 1, 0, 0}, {MAX, 1, 0, 0}, {3, 4, 0, 0}, {3, -1, 0, 0},
                {3, 0, 3, 0}, {3, 1, -1, 0}, {3, 1, 0, 2}, {3, 1, 0, -1}, {3, MIN, 0, 0}, {3, MAX, 0, 0}, {3, 1, MIN, 0},
                {3, 1, MAX, 0}, {3, 1, 0, MIN}, {3, 1, 0, MAX}, {3, 0, 0, 0}, {0, 0, 0, 0}, {3, 3, 2, 1}, {2, 3, 1, 0}};
            for (int[] p : bad) {
                refused(Bounds::rich, "pin(" + p[0] + ", " + p[1] + ", " + p[2] + ", " + p[3] + ")",
                        b -> b.pin(p[0], p[1], p[2], p[3]));
            }
            for (int net = 0; net < 8; net++) {
                int n = net;
                refused(Bounds::full, "a fifth pin of net " + n, b -> b.pin(n, 0, 4, 1));
            }
        });
        test(8, "each in a CELL; no two PINS of the board in one", () -> {
            CopperBoard b = board(3, 3, 2, "s 1", "s 1");
            due("a pin", b.pin(0, 1, 1, 0), 0);
            due("again", b.pin(0, 1, 1, 0), -1);
            due("of another net", b.pin(1, 1, 1, 0), -1);
            due("one layer below", b.pin(1, 1, 1, 1), 0);
            b.wire(0, 0, 0, 2, 0, 0);
            due("on a wire of another net", b.pin(1, 1, 0, 0), 1);
            due("late", b.late(0, 0, 2, 2, 0), 0);
            due("where it was", b.pin(1, 1, 1, 0), 2);
            due("where it is now", b.pin(1, 2, 2, 0), -1);
        });
        test(8, "PINS (4 at most each)", () -> {
            CopperBoard b = full();
            for (int net = 0; net < 8; net++) {
                due("pins of " + net, b.about(net, 3), 4);
                for (int p = 0; p < 4; p++) {
                    due("pin " + p + " of " + net, b.copper(p, net % 4, net / 4), 1 << net);
                }
            }
            due("a fifth", b.pin(7, 3, 4, 1), -1);
            due("copper", b.copper(3, 4, 1), 0);
        });
    }

    // ---- promise 9

    private static void kept(int x, int y, int x2, int y2, int layers, String upper, String lower) {
        CopperBoard b = board(4, 3, 2, "s 1");
        due("keep", b.keep(x, y, x2, y2, layers), true);
        StringBuilder all = new StringBuilder();
        for (int layer = 0; layer < 2; layer++) {
            for (int cell = 0; cell < 12; cell++) {
                all.append(cell % 4 == 0 && cell > 0 ? "/" : "").append(b.free(0, cell % 4, cell / 4, layer) == 1 ? "." : "x");
            }
            all.append(layer == 0 ? " " : "");
        }
        same("keepouts", all.toString(), upper + " " + lower);
        due("no copper", b.copper(x, y, 0), 0);
    }

    private static void keepouts() {
        test(9, "KEEPOUT CELLS are told", () -> {
            CopperBoard b = board(3, 3, 2, "s 1");
            pins(b, 0, 0, 0, 2, 0);
            due("none at first", b.lay(0), 2);
            due("on copper", b.keep(0, 0, 2, 0, 1), true);
            same("copper stays", picture(b, 0), "111/.../...");
            due("told again", b.keep(0, 0, 2, 0, 3), true);
            due("round them", b.lay(0), 4);
            due("they stay when wires go", b.wire(0, 1, 0, 1, 1, 0) && b.unwire(0), true);
            due("still round them", b.lay(0), 4);
        });
        test(9, "KEEPOUT CELLS from x, y to x2, y2 (no less each) in LAYERS (bits, not 0).", () -> {
            kept(1, 1, 2, 2, 1, "..../.xx./.xx.", "..../..../....");
            kept(1, 1, 1, 1, 2, "..../..../....", "..../.x../....");
            kept(0, 0, 3, 2, 3, "xxxx/xxxx/xxxx", "xxxx/xxxx/xxxx");
            kept(0, 0, 0, 2, 3, "x.../x.../x...", "x.../x.../x...");
            kept(0, 2, 3, 2, 1, "..../..../xxxx", "..../..../....");
            kept(3, 0, 3, 0, 2, "..../..../....", "...x/..../....");
            CopperBoard b = rich();
            due("told before", b.keep(1, 0, 1, 1, 1), true);
            CopperBoard four = board(2, 2, 4, "s 1");
            due("all four layers", four.keep(0, 0, 0, 0, 15), true);
            due("the last one", four.free(0, 0, 0, 3), 0);
            due("beside", four.free(0, 1, 0, 3), 1);
        });
        test(9, "False: no such ones.", () -> {
            int[][] bad = {{2, 0, 1, 0, 1}, {0, 2, 0, 1, 1}, {3, 2, 0, 0, 1}, {0, 0, 4, 0, 1}, {0, 0, 0, 3, 1},
                {-1, 0, 0, 0, 1}, {0, -1, 0, 0, 1}, {4, 0, 4, 0, 1}, {0, 3, 0, 3, 1}, {-2, 0, -1, 0, 1}, {0, 0, 3, 2, 0},
                {0, 0, 3, 2, 4}, {0, 0, 3, 2, 7}, {0, 0, 3, 2, -1}, {0, 0, 3, 2, MIN}, {0, 0, 3, 2, MAX},
                {MIN, MIN, MAX, MAX, 1}, {0, 0, MAX, 0, 1}, {MIN, 0, 0, 0, 1}, {0, 0, 0, MAX, 1}, {0, MIN, 0, 0, 1}};
            for (int[] k : bad) {
                refusedFalse(Bounds::rich, "keep(" + k[0] + ", " + k[1] + ", " + k[2] + ", " + k[3] + ", " + k[4] + ")",
                        b -> b.keep(k[0], k[1], k[2], k[3], k[4]));
            }
            refusedFalse(() -> new CopperBoard(2, 2, 1), "keep in layer 1 of 1", b -> b.keep(0, 0, 0, 0, 2));
            refusedFalse(() -> new CopperBoard(2, 2, 4), "keep in layer 4 of 4", b -> b.keep(0, 0, 0, 0, 16));
        });
    }

    // ---- promises 10 and 11

    private static void wires() {
        test(10, "A WIRE of a NET from one CELL straight to another one (unlike) in a LAYER.", () -> {
            int[][] rows = {{0, 1, 3, 1}, {3, 1, 0, 1}, {1, 0, 1, 2}, {1, 2, 1, 0}, {2, 0, 3, 0}, {3, 0, 2, 0}, {0, 1, 0, 2},
                {0, 2, 0, 1}};
            String[] pictures = {"..../1111/....", "..../1111/....", ".1../.1../.1..", ".1../.1../.1..", "..11/..../....",
                "..11/..../....", "..../1.../1...", "..../1.../1..."};
            for (int i = 0; i < rows.length; i++) {
                CopperBoard b = board(4, 3, 2, "s 1");
                due("wire", b.wire(0, rows[i][0], rows[i][1], rows[i][2], rows[i][3], 1), true);
                same("lower", picture(b, 1), pictures[i]);
                same("upper", picture(b, 0), "..../..../....");
                due("steps", b.delay(0), Math.abs(rows[i][0] - rows[i][2]) + Math.abs(rows[i][1] - rows[i][3]));
            }
            CopperBoard b = board(9, 9, 4, "l 0");
            due("from side to side", b.wire(0, 0, 8, 8, 8, 3), true);
            due("steps", b.delay(0), 8);
            due("over its end", b.wire(0, 8, 8, 8, 0, 3), true);
            due("cells", b.about(0, 2), 17);
            b.keep(0, 0, 8, 8, 15);
            due("on keepouts", b.wire(0, 0, 0, 0, 8, 0), true);
            due("cells", b.about(0, 2), 26);
        });
        test(10, "False: no such ones, not straight.", () -> {
            int[][] bad = {{4, 0, 0, 1, 0, 0}, {-1, 0, 0, 1, 0, 0}, {MIN, 0, 0, 1, 0, 0}, {MAX, 0, 0, 1, 0, 0},
                {0, 0, 0, 0, 0, 0}, {0, 3, 2, 3, 2, 1}, {0, 0, 0, 1, 1, 0}, {0, 0, 0, 3, 2, 0}, {0, 1, 1, 0, 2, 0},
                {0, 0, 0, 4, 0, 0}, {0, 0, 0, 0, 3, 0}, {0, -1, 0, 1, 0, 0}, {0, 0, -1, 0, 1, 0}, {0, 4, 0, 0, 0, 0},
                {0, 0, 3, 0, 0, 0}, {0, 0, 0, -1, 0, 0}, {0, 0, 0, 0, -1, 0}, {0, 0, 0, 1, 0, 2}, {0, 0, 0, 1, 0, -1},
                {0, MIN, 0, MAX, 0, 0}, {0, 0, MIN, 0, MAX, 0}, {0, 0, 0, 1, 0, MAX}, {0, 0, 0, 1, 0, MIN}};
            for (int[] w : bad) {
                refusedFalse(Bounds::rich, "wire(" + w[0] + ", " + w[1] + ", " + w[2] + ", " + w[3] + ", " + w[4] + ", "
                        + w[5] + ")", b -> b.wire(w[0], w[1], w[2], w[3], w[4], w[5]));
            }
        });
    }

    private static void holes() {
        test(11, "A HOLE of a NET from a LAYER to the next one.", () -> {
            CopperBoard b = board(2, 2, 4, "l 0");
            b.slow(-1, 1);
            for (int layer = 0; layer < 3; layer++) {
                due("hole", b.hole(0, 1, layer % 2, layer), true);
                due("upper", b.copper(1, layer % 2, layer), 1);
                due("lower", b.copper(1, layer % 2, layer + 1), 1);
            }
            due("cells", b.about(0, 2), 6);
            due("again", b.hole(0, 1, 0, 0), true);
            due("holes", b.delay(0), 3);
            CopperBoard two = board(2, 2, 2, "s 1");
            b = two;
            b.pin(0, 0, 0, 0);
            b.pin(0, 0, 0, 1);
            due("joins both", b.netlist(1), 1);
            due("hole", b.hole(0, 0, 0, 0), true);
            due("joins both", b.netlist(1), 0);
        });
        test(11, "False: no such ones.", () -> {
            int[][] bad = {{4, 0, 0, 0}, {-1, 0, 0, 0}, {MIN, 0, 0, 0}, {MAX, 0, 0, 0}, {0, 4, 0, 0}, {0, -1, 0, 0},
                {0, 0, 3, 0}, {0, 0, -1, 0}, {0, 0, 0, 1}, {0, 0, 0, 2}, {0, 0, 0, -1}, {0, 0, 0, MAX}, {0, 0, 0, MIN},
                {0, MAX, 0, 0}, {0, 0, MIN, 0}};
            for (int[] h : bad) {
                refusedFalse(Bounds::rich, "hole(" + h[0] + ", " + h[1] + ", " + h[2] + ", " + h[3] + ")",
                        b -> b.hole(h[0], h[1], h[2], h[3]));
            }
            refusedFalse(() -> board(2, 2, 1, "s 1"), "a hole in a board of one layer", b -> b.hole(0, 0, 0, 0));
            refusedFalse(() -> board(2, 2, 4, "s 1"), "a hole out of the last layer", b -> b.hole(0, 0, 0, 3));
        });
    }

    // ---- promise 12

    private static void copper() {
        test(12, "NETS with COPPER in a CELL, as bits.", () -> {
            String[] texts = {"s 1", "s 1", "s 1", "s 1", "s 1", "s 1", "s 1", "s 1"};
            CopperBoard b = board(3, 3, 2, texts);
            due("none", b.copper(0, 0, 0), 0);
            for (int net = 0; net < 8; net++) {
                b.wire(net, 0, 0, 2, 0, 0);
                due("up to net " + net, b.copper(1, 0, 0), (2 << net) - 1);
            }
            due("the other layer", b.copper(1, 0, 1), 0);
            b.unwire(0);
            due("without net 0", b.copper(2, 0, 0), 254);
        });
        test(12, "COPPER of a NET: its PINS, WIRES (laid by hand: rows of CELLS, straight ones, "
                + "and HOLES from one LAYER to the next), and TRACES (laid by LAY)", () -> {
            CopperBoard b = board(4, 4, 2, "s 1", "s 1", "s 1");
            pins(b, 0, 0, 0);
            due("a pin", b.copper(0, 0, 0), 1);
            b.wire(1, 0, 1, 3, 1, 0);
            same("a wire", picture(b, 0), "1.../2222/..../....");
            b.hole(1, 0, 3, 0);
            due("a hole, upper", b.copper(0, 3, 0), 2);
            due("a hole, lower", b.copper(0, 3, 1), 2);
            pins(b, 2, 1, 3, 3, 3);
            due("between pins", b.copper(2, 3, 0), 0);
            b.lay(2);
            due("a trace", b.copper(2, 3, 0), 4);
            same("all", picture(b, 0), "1.../2222/..../2444");
        });
        test(12, "NONE: no such CELL.", () -> {
            int[][] bad = {{-1, 0, 0}, {4, 0, 0}, {0, -1, 0}, {0, 3, 0}, {0, 0, -1}, {0, 0, 2}, {MIN, 0, 0}, {MAX, 0, 0},
                {0, MIN, 0}, {0, MAX, 0}, {0, 0, MIN}, {0, 0, MAX}, {1 << 30, 1 << 30, 1 << 30}};
            for (int[] c : bad) {
                refused(Bounds::rich, "copper(" + c[0] + ", " + c[1] + ", " + c[2] + ")", b -> b.copper(c[0], c[1], c[2]));
            }
        });
    }

    // ---- promise 13

    private static void freeCells() {
        test(13, "FREE for a NET: a CELL with COPPER of its own", () -> {
            CopperBoard b = board(5, 3, 2, "l 0", "c 2");
            b.pin(0, 0, 0, 1);
            due("out of its layers", b.free(0, 0, 0, 1), 1);
            due("beside it", b.free(0, 1, 0, 1), 0);
            b.keep(0, 0, 4, 2, 3);
            due("on a keepout", b.free(0, 0, 0, 1), 1);
            b.wire(1, 0, 0, 4, 0, 1);
            due("with copper of another", b.free(0, 0, 0, 1), 1);
            due("the other one's is so, too", b.free(1, 0, 0, 1), 1);
            due("no copper of its own", b.free(0, 1, 0, 1), 0);
            CopperBoard c = board(4, 2, 1, "s 1");
            pins(c, 0, 0, 0, 3, 0);
            c.lay(0);
            c.keep(0, 0, 3, 1, 1);
            due("a trace on a keepout", c.free(0, 1, 0, 0), 1);
            c.rip(0);
            due("without the trace", c.free(0, 1, 0, 0), 0);
        });
        test(13, "or one on a LAYER of its CLASS, no KEEPOUT", () -> {
            CopperBoard b = board(3, 3, 4, "l 13", "s 1");
            for (int layer = 0; layer < 4; layer++) {
                due("layer " + layer, b.free(0, 1, 1, layer), layer % 2);
                due("a class of all layers", b.free(1, 1, 1, layer), 1);
            }
            keep(b, 1, 1, 1);
            due("a keepout", b.free(0, 1, 1, 1), 0);
            due("for others, too", b.free(1, 1, 1, 1), 0);
            due("not the layer above", b.free(1, 1, 1, 0), 1);
            due("not the layer below", b.free(1, 1, 1, 2), 1);
            due("not beside", b.free(1, 0, 1, 1), 1);
        });
        test(13, "without COPPER of another NET in the same LAYER", () -> {
            CopperBoard b = board(4, 4, 2, "c 2", "s 1", "s 1", "s 1");
            b.pin(1, 0, 0, 0);
            due("a pin", b.free(0, 2, 2, 0), 0);
            due("in the other layer", b.free(0, 0, 0, 1), 1);
            CopperBoard c = board(4, 4, 2, "c 1", "s 1");
            c.hole(1, 0, 0, 0);
            due("a hole, upper", c.free(0, 1, 1, 0), 0);
            due("a hole, lower", c.free(0, 1, 1, 1), 0);
            CopperBoard d = board(4, 4, 1, "c 1", "s 1");
            pins(d, 1, 0, 0, 3, 0);
            due("between the pins", d.free(0, 1, 2, 0), 1);
            due("two from a pin", d.free(0, 2, 2, 0), 1);
            d.lay(1);
            due("two from a trace", d.free(0, 2, 2, 0), 1);
            due("one from a trace", d.free(0, 1, 1, 0), 0);
            d.rip(1);
            due("its trace is gone, its pin is not", d.free(0, 1, 1, 0), 0);
            CopperBoard e = board(4, 4, 1, "s 1", "c 1");
            pins(e, 0, 0, 0, 3, 0);
            due("ahead of the trace", e.free(1, 2, 0, 0) * 2 + e.free(1, 2, 1, 0), 0);
            due("free", e.free(1, 1, 2, 0), 1);
            keep(e, 1, 0, 0);
            keep(e, 2, 0, 0);
            e.lay(0);
            same("a bow", picture(e, 0), "1..1/1111/..../....");
            due("beside the trace of net 0", e.free(1, 1, 2, 0), 0);
            due("two from it", e.free(1, 1, 3, 0), 1);
        });
        test(13, "Whether a CELL is FREE for a NET (1, 0).", () -> {
            quiet(Bounds::rich, "a cell of its wire", b -> b.free(2, 2, 2, 1), 1);
            quiet(Bounds::rich, "a keepout", b -> b.free(0, 1, 0, 0), 0);
        });
        test(13, "NONE: no such ones.", () -> {
            int[][] bad = {{-1, 0, 0, 0}, {4, 0, 0, 0}, {MIN, 0, 0, 0}, {MAX, 0, 0, 0}, {0, -1, 0, 0}, {0, 4, 0, 0},
                {0, 0, -1, 0}, {0, 0, 3, 0}, {0, 0, 0, -1}, {0, 0, 0, 2}, {0, MIN, 0, 0}, {0, MAX, MAX, MAX}};
            for (int[] f : bad) {
                refused(Bounds::rich, "free(" + f[0] + ", " + f[1] + ", " + f[2] + ", " + f[3] + ")",
                        b -> b.free(f[0], f[1], f[2], f[3]));
            }
            refused(() -> new CopperBoard(2, 2, 1), "free without nets", b -> b.free(0, 0, 0, 0));
        });
    }

    /** Whether net 0 may go to a cell so far east and south of a pin of net 1. */
    private static void clear(String first, String second, int far) {
        Supplier<CopperBoard> made = () -> {
            CopperBoard b = board(9, 9, 1, first, second);
            b.pin(1, 4, 4, 0);
            return b;
        };
        CopperBoard b = made.get();
        for (int cell = 0; cell < 81; cell++) {
            int x = cell % 9;
            int y = cell / 9;
            boolean near = Math.abs(x - 4) <= far && Math.abs(y - 4) <= far;
            due("\"" + first + "\" beside \"" + second + "\": free(0, " + x + ", " + y + ", 0)", b.free(0, x, y, 0), near ? 0 : 1);
        }
    }

    private static void clearances() {
        test(13, "at most CLEAR away in x and in y", () -> {
            clear("c 0", "c 0", 0);
            clear("c 1", "c 1", 1);
            clear("c 2", "c 2", 2);
        });
        test(13, "(the greater CLEAR of both CLASSES)", () -> {
            clear("c 0", "c 1", 1);
            clear("c 1", "c 0", 1);
            clear("c 0", "c 2", 2);
            clear("c 2", "c 0", 2);
            clear("c 1", "c 2", 2);
            clear("c 2", "c 1", 2);
            CopperBoard b = board(9, 9, 1, "c 0", "c 1", "c 2");
            b.pin(0, 4, 4, 0);
            for (int turn = 0; turn < 2; turn++) {
                due("of the second", b.free(1, 3, 4, 0) * 2 + b.free(1, 2, 4, 0), 1);
                due("of the third", b.free(2, 2, 4, 0) * 2 + b.free(2, 1, 4, 0), 1);
                due("of the first itself", b.free(0, 3, 4, 0), 1);
            }
            b.pin(2, 8, 8, 0);
            due("the first beside the third", b.free(0, 6, 6, 0) * 2 + b.free(0, 5, 6, 0), 1);
            due("the second beside the first", b.free(1, 5, 5, 0) * 2 + b.free(1, 6, 5, 0), 1);
            due("the first beside the third again", b.free(0, 6, 6, 0) * 2 + b.free(0, 5, 6, 0), 1);
        });
    }

    private static void edges() {
        test(13, "in the same LAYER at most CLEAR away in x and in y", () -> {
            CopperBoard b = board(4, 4, 3, "c 2", "s 1");
            b.pin(1, 3, 1, 1);
            for (int y = 0; y < 4; y++) {
                due("at the other side in row " + y, b.free(0, 0, y, 1), 1);
            }
            due("two to the west", b.free(0, 1, 1, 1), 0);
            CopperBoard c = board(4, 4, 3, "c 2", "s 1");
            c.pin(1, 1, 0, 1);
            for (int x = 0; x < 4; x++) {
                due("the last row above", c.free(0, x, 3, 0), 1);
                due("the last row", c.free(0, x, 3, 1), 1);
                due("the first row below", c.free(0, x, 0, 2), 1);
            }
            CopperBoard d = board(4, 4, 3, "c 2", "s 1");
            d.pin(1, 2, 3, 1);
            for (int x = 0; x < 4; x++) {
                due("the first row", d.free(0, x, 0, 1), 1);
                due("the first row below", d.free(0, x, 0, 2), 1);
                due("the last row above", d.free(0, x, 3, 0), 1);
            }
            CopperBoard e = board(2, 2, 1, "c 2", "s 1");
            e.pin(1, 0, 0, 0);
            due("a board less wide than that", e.free(0, 1, 1, 0), 0);
        });
    }
}
