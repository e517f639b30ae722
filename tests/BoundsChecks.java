import java.util.function.Supplier;

/** Boundary cases of promises 30, 31 and 33 to 37: holes that wander, nets held against copper, delays, pairs. */
final class BoundsChecks extends Bounds {
    static void all() {
        wander();
        wanderPlaces();
        worst();
        shorts();
        opens();
        test();
        slow();
        delay();
        pairCells();
        pairFigures();
        pairRefused();
    }

    private static void shift(CopperBoard b, int x, int y, int shorts, int opens) {
        same("wander(" + x + ", " + y + ", ..)", b.wander(x, y, 0) + " " + b.wander(x, y, 1), shorts + " " + opens);
    }

    // ---- promises 30 and 31

    /** One hole of net 0 in the middle. */
    private static CopperBoard hole() {
        CopperBoard b = board(9, 9, 3, "s 1", "s 1");
        b.hole(0, 4, 4, 0);
        return b;
    }

    private static void wander() {
        test(30, "by so much in x and y (-3 .. 3 each", () -> {
            CopperBoard b = hole();
            b.wire(0, 1, 4, 7, 4, 0);
            b.wire(0, 1, 4, 7, 4, 1);
            b.wire(1, 4, 1, 4, 3, 0);
            b.wire(1, 4, 5, 4, 7, 1);
            for (int by = -3; by <= 3; by++) {
                shift(b, by, 0, 0, 0);
                shift(b, 0, by, by == 0 ? 0 : 1, by == 0 ? 0 : 1);
            }
            shift(b, 3, 3, 0, 1);
            shift(b, -3, -3, 0, 1);
        });
        test(30, "HOLES that wandered by x and y: 0 SHORTS, 1 OPENS. NONE: out of bounds.", () -> {
            int[][] bad = {{4, 0, 0}, {-4, 0, 0}, {0, 4, 0}, {0, -4, 1}, {MIN, 0, 0}, {MAX, 0, 0}, {0, MIN, 0}, {0, MAX, 1},
                {0, 0, 2}, {0, 0, -1}, {0, 0, MIN}, {0, 0, MAX}, {4, 4, 4}};
            for (int[] w : bad) {
                refused(Bounds::rich, "wander(" + w[0] + ", " + w[1] + ", " + w[2] + ")", b -> b.wander(w[0], w[1], w[2]));
            }
            quiet(() -> new CopperBoard(2, 2, 1), "no nets", b -> b.wander(3, -3, 0) + b.wander(-3, 3, 1), 0);
        });
        test(30, "OPEN, if there (in one of both) is none of its own, or no CELL", () -> {
            CopperBoard b = board(3, 3, 2, "s 1", "s 1");
            b.hole(0, 0, 0, 0);
            shift(b, 0, 0, 0, 0);
            shift(b, -1, 0, 0, 1);
            shift(b, 0, -1, 0, 1);
            shift(b, 1, 0, 0, 1);
            b.wire(0, 0, 0, 1, 0, 0);
            shift(b, 1, 0, 0, 1);
            b.wire(0, 0, 0, 1, 0, 1);
            shift(b, 1, 0, 0, 0);
            shift(b, 3, 0, 0, 1);
            shift(b, 2, 2, 0, 1);
            b.wire(1, 2, 0, 2, 2, 0);
            shift(b, 3, -1, 0, 1);
            shift(b, -1, 1, 0, 1);
            CopperBoard c = board(3, 3, 2, "s 1", "s 1");
            c.hole(0, 2, 1, 0);
            c.wire(1, 0, 2, 2, 2, 0);
            shift(c, 1, 0, 0, 1);
            shift(c, 1, 1, 0, 1);
            shift(c, 0, 1, 1, 1);
        });
        test(30, "SHORT, if there then (in one of both LAYERS) is COPPER of another NET", () -> {
            CopperBoard b = hole();
            b.pin(1, 5, 4, 0);
            b.pin(1, 3, 4, 1);
            b.pin(1, 4, 5, 2);
            shift(b, 1, 0, 1, 1);
            shift(b, -1, 0, 1, 1);
            shift(b, 0, 1, 0, 1);
            b.wire(1, 4, 4, 4, 5, 1);
            shift(b, 0, 0, 1, 0);
            shift(b, 0, 1, 1, 1);
            b.wire(1, 5, 4, 5, 4, 1);
            b.pin(1, 5, 4, 1);
            shift(b, 1, 0, 1, 1);
        });
    }

    private static void wanderPlaces() {
        test(30, "a NET's VIA counts once at each place", () -> {
            CopperBoard b = board(4, 3, 3, "s 1", "s 1");
            b.pin(0, 1, 1, 0);
            b.pin(0, 1, 1, 1);
            b.lay(0);
            shift(b, 1, 0, 0, 1);
            b.hole(0, 1, 1, 0);
            shift(b, 1, 0, 0, 1);
            b.hole(1, 1, 1, 0);
            shift(b, 1, 0, 0, 2);
            shift(b, 0, 0, 2, 0);
            b.hole(0, 1, 1, 1);
            shift(b, 1, 0, 0, 3);
            b.hole(0, 2, 1, 0);
            shift(b, 1, 0, 1, 3);
        });
        test(30, "HOLES wander: all VIAS (moves between LAYERS of TRACES and WIRES)", () -> {
            CopperBoard b = board(5, 5, 4, "s 1");
            b.pin(0, 2, 2, 0);
            b.pin(0, 2, 2, 3);
            shift(b, 1, 1, 0, 0);
            b.lay(0);
            shift(b, 1, 1, 0, 3);
            b.wire(0, 0, 0, 4, 0, 2);
            shift(b, 1, 1, 0, 3);
            b.rip(0);
            shift(b, 1, 1, 0, 0);
        });
    }

    private static void worst() {
        test(31, "WORST for so much at most: the x, then y (the lowest) with the most SHORTS and OPENS together.", () -> {
            CopperBoard b = hole();
            for (int most = 0; most <= 3; most++) {
                due("x", b.worst(most, 0), -most);
                due("y", b.worst(most, 1), -most);
                due("how many", b.worst(most, 2), most == 0 ? 0 : 1);
            }
            b.pin(1, 5, 6, 0);
            due("x", b.worst(2, 0), 1);
            due("y", b.worst(2, 1), 2);
            due("how many", b.worst(2, 2), 2);
            due("out of reach", b.worst(1, 2), 1);
            b.pin(1, 5, 2, 1);
            due("x", b.worst(2, 0), 1);
            due("the lower y", b.worst(2, 1), -2);
            b.pin(1, 3, 7, 0);
            due("out of reach", b.worst(2, 0), 1);
            due("the lower x", b.worst(3, 0), -1);
            due("its y", b.worst(3, 1), 3);
            CopperBoard none = new CopperBoard(2, 2, 1);
            due("no vias: the lowest x", none.worst(3, 0), -3);
            due("no vias: the lowest y", none.worst(3, 1), -3);
            due("no vias: none", none.worst(3, 2), 0);
        });
        test(31, "WORST for so much at most (0 .. 3): 0 x, 1 y, 2 how many. HIDDEN: out of bounds.", () -> {
            int[][] bad = {{-1, 0}, {4, 0}, {MIN, 1}, {MAX, 2}, {0, -1}, {0, 3}, {3, MIN}, {3, MAX}, {-1, 3}};
            for (int[] w : bad) {
                quiet(Bounds::rich, "worst(" + w[0] + ", " + w[1] + ")", b -> b.worst(w[0], w[1]), -1000);
            }
            due("HIDDEN", CopperBoard.HIDDEN, -1000);
            quiet(BoundsChecks::hole, "worst(0, 0)", b -> b.worst(0, 0), 0);
            quiet(BoundsChecks::hole, "worst(0, 1)", b -> b.worst(0, 1), 0);
        });
    }

    // ---- promises 33 and 34

    private static void shorts() {
        test(33, "all CELLS with COPPER of two NETS join these: SHORTS: pairs of NETS of which COPPER is joined so", () -> {
            due("no nets", new CopperBoard(2, 2, 1).netlist(0), 0);
            CopperBoard b = board(5, 5, 2, "s 1", "s 1", "s 1", "s 1");
            due("no copper", b.netlist(0), 0);
            b.wire(0, 0, 0, 4, 0, 0);
            b.wire(1, 0, 1, 4, 1, 0);
            due("side by side", b.netlist(0), 0);
            b.wire(2, 0, 0, 4, 0, 1);
            due("one above the other", b.netlist(0), 0);
            b.pin(1, 2, 0, 0);
            due("a pin on a wire", b.netlist(0), 1);
            b.wire(1, 4, 1, 4, 0, 0);
            due("a pair counts once", b.netlist(0), 1);
            b.hole(3, 0, 1, 0);
            due("a hole", b.netlist(0), 3);
            b.wire(3, 0, 1, 0, 0, 1);
            due("all four", b.netlist(0), 6);
            CopperBoard c = board(4, 2, 1, "s 1", "s 1");
            pins(c, 0, 0, 0, 3, 0);
            c.lay(0);
            c.wire(1, 1, 0, 1, 1, 0);
            due("a wire on a trace", c.netlist(0), 1);
            c.rip(0);
            due("without the trace", c.netlist(0), 0);
            CopperBoard d = board(4, 4, 1, "s 1", "s 1");
            pins(d, 0, 0, 0, 3, 0);
            d.wire(1, 0, 0, 0, 3, 0);
            d.wire(0, 0, 2, 3, 2, 0);
            due("two places, one pair", d.netlist(0), 1);
            d.unwire(1);
            due("without the wire", d.netlist(0), 0);
            String[] texts = {"s 1", "s 1", "s 1", "s 1", "s 1", "s 1", "s 1", "s 1"};
            CopperBoard all = board(2, 2, 1, texts);
            for (int net = 0; net < 8; net++) {
                all.wire(net, 0, 0, 1, 0, 0);
            }
            due("all pairs of eight", all.netlist(0), 28);
        });
        test(33, "NETLIST: 0 SHORTS, 1 OPENS. NONE: no such one.", () -> {
            for (int what : new int[] {-1, 2, MIN, MAX}) {
                refused(Bounds::rich, "netlist(" + what + ")", b -> b.netlist(what));
            }
        });
    }

    private static void opens() {
        test(33, "OPENS: into how many parts the PINS of each NET fall, less 1 (0 of a NET without PINS), all together", () -> {
            due("no nets", new CopperBoard(2, 2, 1).netlist(1), 0);
            CopperBoard b = board(5, 5, 2, "s 1", "s 1");
            due("no pins", b.netlist(1), 0);
            b.wire(1, 0, 4, 1, 4, 0);
            b.wire(1, 3, 4, 4, 4, 0);
            due("wires without pins", b.netlist(1), 0);
            pins(b, 0, 0, 0);
            due("one pin", b.netlist(1), 0);
            pins(b, 0, 1, 0);
            due("two side by side", b.netlist(1), 1);
            b.pin(0, 0, 0, 1);
            due("three", b.netlist(1), 2);
            pins(b, 0, 4, 2);
            due("four", b.netlist(1), 3);
            pins(b, 1, 0, 4, 4, 4);
            due("two nets", b.netlist(1), 4);
            b.hole(0, 0, 0, 0);
            due("a hole joins two", b.netlist(1), 3);
            b.wire(0, 0, 0, 1, 0, 0);
            due("a wire joins three", b.netlist(1), 2);
            b.lay(0);
            due("traces join all", b.netlist(1), 1);
            b.rip(0);
            due("without them", b.netlist(1), 2);
            CopperBoard all = full();
            due("eight nets of four pins", all.netlist(1), 24);
            CopperBoard whole = board(2, 2, 1, "s 1");
            pins(whole, 0, 0, 0, 1, 0, 0, 1, 1, 1);
            due("a pin in each cell", whole.netlist(1), 3);
            due("no shorts", whole.netlist(0), 0);
            whole.wire(0, 0, 0, 1, 0, 0);
            due("two joined", whole.netlist(1), 2);
        });
    }

    private static void test() {
        test(34, "a NET has a CELL with COPPER in a LAYER, no KEEPOUT, with no COPPER of another NET on its neighbours or itself",
                () -> {
            due("no nets", new CopperBoard(2, 2, 1).test(0), 0);
            CopperBoard b = board(5, 5, 2, "s 1", "s 1", "s 1");
            due("no copper", b.test(0), 0);
            pins(b, 0, 2, 2);
            due("one pin", b.test(0), 1);
            due("in its layer alone", b.test(1), 0);
            int[][] beside = {{2, 1}, {3, 2}, {2, 3}, {1, 2}};
            for (int[] n : beside) {
                CopperBoard c = board(5, 5, 2, "s 1", "s 1");
                pins(c, 0, 2, 2);
                pins(c, 1, n[0], n[1]);
                due("a neighbour", c.test(0), 0);
            }
            CopperBoard d = board(5, 5, 2, "s 1", "s 1");
            pins(d, 0, 2, 2);
            pins(d, 1, 1, 1, 3, 1, 1, 3, 3, 3);
            due("corners are none", d.test(0), 3);
            CopperBoard e = board(5, 5, 2, "s 1", "s 1");
            pins(e, 0, 2, 2);
            e.pin(1, 2, 2, 1);
            due("nor is the layer below", e.test(0) + 4 * e.test(1), 1 + 8);
            CopperBoard f = board(5, 5, 2, "s 1", "s 1");
            pins(f, 0, 2, 2);
            f.wire(1, 2, 2, 4, 2, 0);
            due("on itself; the other has its far end", f.test(0), 2);
            CopperBoard g = board(5, 5, 2, "s 1");
            pins(g, 0, 2, 2);
            keep(g, 2, 2, 1);
            due("a keepout below", g.test(0), 1);
            keep(g, 2, 1, 0);
            due("a keepout beside", g.test(0), 1);
            keep(g, 2, 2, 0);
            due("a keepout", g.test(0), 0);
            g.wire(0, 2, 2, 3, 2, 0);
            due("one cell is enough", g.test(0), 1);
            CopperBoard h = board(3, 3, 2, "s 1", "s 1");
            pins(h, 0, 2, 0);
            pins(h, 1, 0, 1);
            due("not the next row's first", h.test(0), 3);
        });
        test(34, "NETS that can be reached by TEST in a LAYER, as bits. NONE: no such LAYER.", () -> {
            for (int layer : new int[] {-1, 2, 4, MIN, MAX}) {
                refused(Bounds::rich, "test(" + layer + ")", b -> b.test(layer));
            }
            refused(() -> new CopperBoard(2, 2, 4), "test(4)", b -> b.test(4));
            quiet(() -> new CopperBoard(2, 2, 4), "test(3)", b -> b.test(3), 0);
            String[] texts = {"s 1", "s 1", "s 1", "s 1", "s 1", "s 1", "s 1", "s 1"};
            CopperBoard b = board(9, 9, 1, texts);
            for (int net = 0; net < 8; net++) {
                pins(b, net, net, net);
            }
            due("all eight", b.test(0), 255);
        });
    }

    // ---- promises 35 and 36

    /** Two steps and a hole of net 0: the steps in layers 0 and 1. */
    private static CopperBoard stepped() {
        CopperBoard b = board(4, 3, 2, "s 1", "s 1");
        b.wire(0, 0, 0, 2, 0, 0);
        b.hole(0, 2, 0, 0);
        b.wire(0, 2, 0, 2, 1, 1);
        return b;
    }

    private static void slow() {
        test(35, "as much as was told of its LAYER (0 .. 99; 1 at first), for each VIA (likewise) what was told of VIAS "
                + "(0 .. 99; 0 at first)", () -> {
            CopperBoard b = stepped();
            due("at first", b.delay(0), 3);
            due("99 of layer 0", b.slow(0, 99), true);
            due("delay", b.delay(0), 2 * 99 + 1);
            due("99 of layer 1", b.slow(1, 99), true);
            due("delay", b.delay(0), 3 * 99);
            due("99 of vias", b.slow(-1, 99), true);
            due("delay", b.delay(0), 4 * 99);
            due("0 of layer 0", b.slow(0, 0), true);
            due("delay", b.delay(0), 2 * 99);
            due("0 of layer 1", b.slow(1, 0), true);
            due("delay", b.delay(0), 99);
            due("0 of vias", b.slow(-1, 0), true);
            due("delay", b.delay(0), 0);
            CopperBoard four = board(2, 2, 4, "s 1");
            four.wire(0, 0, 0, 1, 0, 3);
            due("the last layer", four.slow(3, 42), true);
            due("delay", four.delay(0), 42);
        });
        test(35, "What DELAY is told of a LAYER, or of VIAS (layer NONE). False: no such ones, out of bounds.", () -> {
            int[][] bad = {{2, 1}, {-2, 1}, {4, 1}, {MIN, 1}, {MAX, 1}, {0, 100}, {0, -1}, {-1, 100}, {-1, -1}, {1, MIN},
                {1, MAX}, {-1000, 5}};
            for (int[] s : bad) {
                refusedFalse(BoundsChecks::stepped, "slow(" + s[0] + ", " + s[1] + ")", b -> b.slow(s[0], s[1]));
                refusedFalse(Bounds::rich, "slow(" + s[0] + ", " + s[1] + ")", b -> b.slow(s[0], s[1]));
            }
        });
    }

    private static void delay() {
        test(36, "DELAY of a NET: for each of its STEPS (of WIRES and TRACES; once at each place)", () -> {
            CopperBoard b = stepped();
            b.slow(0, 10);
            b.slow(1, 3);
            b.slow(-1, 50);
            due("told", b.delay(0), 20 + 3 + 50);
            b.wire(0, 1, 0, 2, 0, 0);
            b.hole(0, 2, 0, 0);
            due("wires at one place", b.delay(0), 73);
            b.pin(0, 0, 0, 0);
            pins(b, 0, 2, 0);
            b.unwire(0);
            due("nothing", b.delay(0), 0);
            b.lay(0);
            due("traces", b.delay(0), 20);
            b.wire(0, 0, 0, 1, 0, 0);
            due("a wire on the trace", b.delay(0), 20);
            b.wire(0, 0, 0, 0, 1, 0);
            due("a wire beside", b.delay(0), 30);
            CopperBoard c = board(2, 2, 2, "s 1");
            c.slow(-1, 7);
            c.pin(0, 0, 0, 0);
            c.pin(0, 0, 0, 1);
            c.lay(0);
            due("a via", c.delay(0), 7);
            c.hole(0, 0, 0, 0);
            due("a hole in its place", c.delay(0), 7);
            c.hole(0, 1, 0, 0);
            due("a hole elsewhere", c.delay(0), 14);
            quiet(() -> board(2, 2, 1, "s 1"), "no copper", d -> d.delay(0), 0);
        });
        test(36, "DELAY. NONE: no such NET.", () -> {
            for (int net : new int[] {4, 8, -1, MIN, MAX}) {
                refused(Bounds::rich, "delay(" + net + ")", b -> b.delay(net));
            }
        });
    }

    // ---- promise 37

    private static void pairCells() {
        test(37, "PAIR of two NETS: 0 how many CELLS with COPPER of the first have COPPER of the second on a neighbour "
                + "north, east, south, west (in the LAYER)", () -> {
            int[][] near = {{2, 1, 1}, {3, 2, 1}, {2, 3, 1}, {1, 2, 1}, {1, 1, 0}, {3, 3, 0}, {2, 0, 0}, {4, 2, 0}, {2, 2, 0}};
            for (int[] n : near) {
                CopperBoard b = board(5, 5, 2, "s 1", "s 1");
                pins(b, 0, 2, 2);
                b.wire(1, n[0], n[1], n[0], n[1] == 0 ? 1 : n[1] - 1, 1);
                due("in another layer", b.pair(0, 1, 0), 0);
                CopperBoard c = board(5, 5, 2, "s 1", "s 1");
                c.wire(0, 2, 2, 2, 3, 1);
                c.hole(0, 2, 2, 0);
                c.unwire(0);
                pins(c, 0, 2, 2);
                c.hole(1, n[0], n[1], 0);
                due("copper at " + n[0] + ", " + n[1], c.pair(0, 1, 0), n[2]);
                due("the other way round", c.pair(1, 0, 0), n[2]);
            }
            CopperBoard d = board(3, 3, 1, "s 1", "s 1");
            pins(d, 0, 2, 0);
            pins(d, 1, 0, 1);
            due("not the next row's first", d.pair(0, 1, 0), 0);
            CopperBoard e = board(5, 3, 1, "s 1", "s 1");
            e.wire(0, 0, 0, 4, 0, 0);
            e.wire(1, 0, 1, 4, 1, 0);
            due("all", e.pair(0, 1, 0), 5);
            e.wire(1, 0, 0, 4, 0, 0);
            due("once each", e.pair(0, 1, 0), 5);
            due("of the second", e.pair(1, 0, 0), 10);
            quiet(() -> board(2, 2, 1, "s 1", "s 1"), "no copper", b -> b.pair(0, 1, 0), 0);
        });
        test(37, "1 DELAY of the first less that of the second", () -> {
            CopperBoard b = stepped();
            due("3 less 0", b.pair(0, 1, 1), 3);
            due("0 less 3", b.pair(1, 0, 1), -3);
            b.wire(1, 0, 2, 3, 2, 0);
            due("alike", b.pair(0, 1, 1), 0);
            b.slow(0, 99);
            due("told", b.pair(0, 1, 1), 199 - 297);
        });
    }

    private static void pairFigures() {
        test(37, "2 LONGEST: the most CELLS one behind the other along the TRACE of the first (two PINS, without WIRES, laid) "
                + "that are so", () -> {
            CopperBoard b = board(9, 3, 1, "s 1", "s 1");
            pins(b, 0, 0, 1, 8, 1);
            b.lay(0);
            due("none", b.pair(0, 1, 2), 0);
            pins(b, 1, 8, 0);
            due("the first cell", b.pair(0, 1, 2), 1);
            b.wire(1, 0, 0, 2, 0, 0);
            due("three to the end", b.pair(0, 1, 2), 3);
            b.wire(1, 4, 2, 7, 2, 0);
            due("five from the start", b.pair(0, 1, 2), 5);
            b.wire(1, 3, 2, 4, 2, 0);
            due("all", b.pair(0, 1, 2), 9);
            CopperBoard c = board(4, 3, 2, "s 1,v 1", "s 1");
            c.pin(0, 0, 1, 0);
            c.pin(0, 3, 1, 0);
            keep(c, 2, 1, 0);
            c.keep(0, 0, 3, 0, 1);
            c.keep(0, 2, 3, 2, 1);
            c.lay(0);
            due("vias", c.about(0, 1), 2);
            c.wire(1, 1, 0, 3, 0, 1);
            due("cells below alone", c.pair(0, 1, 2), 3);
            c.wire(1, 2, 0, 3, 0, 0);
            due("the pin's cell ahead of them", c.pair(0, 1, 2), 4);
            CopperBoard d = board(5, 3, 3, "l 1", "s 1");
            d.pin(0, 0, 1, 1);
            d.pin(0, 4, 1, 1);
            d.lay(0);
            d.wire(1, 0, 1, 4, 1, 0);
            d.wire(1, 0, 1, 4, 1, 2);
            due("above and below are no neighbours", d.pair(0, 1, 2), 0);
            d.wire(1, 0, 0, 0, 2, 1);
            due("on its last cell and beside it", d.pair(0, 1, 2), 2);
        });
        test(37, "3 AWAY: how many STEPS of the first (its TRACES) turn from being so to not being so or back", () -> {
            CopperBoard b = board(9, 3, 1, "s 1", "s 1");
            pins(b, 0, 0, 1, 8, 1);
            due("not laid", b.pair(0, 1, 3), 0);
            b.lay(0);
            due("never so", b.pair(0, 1, 3), 0);
            pins(b, 1, 8, 0);
            due("away at once", b.pair(0, 1, 3), 1);
            pins(b, 1, 4, 2);
            due("back and away", b.pair(0, 1, 3), 3);
            pins(b, 1, 5, 0);
            due("longer so", b.pair(0, 1, 3), 3);
            b.wire(1, 0, 0, 8, 0, 0);
            due("always so", b.pair(0, 1, 3), 0);
            b.rip(0);
            b.wire(0, 0, 1, 8, 1, 0);
            b.unwire(1);
            due("wires do not turn", b.pair(0, 1, 3), 0);
            CopperBoard c = board(3, 3, 2, "s 1,v 1", "s 1");
            c.pin(0, 1, 1, 0);
            c.pin(0, 1, 1, 1);
            c.lay(0);
            c.pin(1, 1, 0, 0);
            due("a via is no step", c.pair(0, 1, 3), 0);
            for (int net = 0; net < 2; net++) {
                CopperBoard d = board(3, 9, 1, "s 1", "s 1");
                pins(d, net, 1, 0, 1, 8);
                d.lay(net);
                pins(d, 1 - net, 0, 3, 2, 5, 0, 8);
                due("southward", d.pair(net, 1 - net, 3), 5);
                CopperBoard e = board(4, 2, 1, "s 1", "s 1");
                pins(e, net, 0, 0, 3, 0);
                e.lay(net);
                pins(e, 1 - net, 0, 1);
                due("from the first cell of all", e.pair(net, 1 - net, 3), 1);
                CopperBoard f = board(2, 4, 1, "s 1", "s 1");
                pins(f, net, 0, 0, 0, 3);
                f.lay(net);
                pins(f, 1 - net, 1, 0);
                due("southward from the first cell of all", f.pair(net, 1 - net, 3), 1);
            }
        });
    }

    private static void pairRefused() {
        test(37, "PAIR: 0 CELLS, 1 the difference of DELAYS, 2 LONGEST, 3 AWAY. HIDDEN: no such ones, alike; for 2 not such a NET.", () -> {
            int[][] bad = {{0, 0, 0}, {0, 0, 1}, {3, 3, 3}, {4, 0, 0}, {0, 4, 0}, {-1, 0, 0}, {0, -1, 1}, {-1, -1, 0}, {4, 4, 0},
                {0, 1, 4}, {0, 1, -1}, {0, 1, MIN}, {0, 1, MAX}, {MIN, 0, 0}, {0, MAX, 0}, {8, 0, 3}, {0, 8, 2}, {1, 0, 2},
                {2, 0, 2}, {3, 0, 2}};
            for (int[] p : bad) {
                quiet(Bounds::rich, "pair(" + p[0] + ", " + p[1] + ", " + p[2] + ")", b -> b.pair(p[0], p[1], p[2]), -1000);
            }
            Supplier<CopperBoard> made = () -> {
                CopperBoard b = board(5, 3, 2, "s 1", "s 1");
                pins(b, 0, 0, 0, 4, 0);
                pins(b, 1, 0, 1);
                return b;
            };
            quiet(made, "not laid", b -> b.pair(0, 1, 2), -1000);
            quiet(made, "one pin", b -> b.pair(1, 0, 2), -1000);
            quiet(() -> {
                CopperBoard b = made.get();
                b.lay(0);
                return b;
            }, "laid", b -> b.pair(0, 1, 2), 1);
            quiet(() -> {
                CopperBoard b = made.get();
                b.lay(0);
                pins(b, 0, 2, 2);
                return b;
            }, "three pins", b -> b.pair(0, 1, 2), -1000);
            quiet(() -> {
                CopperBoard b = made.get();
                b.lay(0);
                b.hole(0, 2, 2, 0);
                return b;
            }, "a hole", b -> b.pair(0, 1, 2), -1000);
        });
    }
}
