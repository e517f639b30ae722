import java.util.function.Supplier;

/** Boundary cases of promises 14 to 18 and 23: a net laid, its cost, ranks and order, figures of a net. */
final class BoundsLaying extends Bounds {
    static void all() {
        rows();
        moves();
        bends();
        choices();
        refusals();
        costs();
        rips();
        ranks();
        order();
        figures();
    }

    // ---- promise 14

    private static void rows() {
        test(14, "its TRACES go", () -> {
            CopperBoard b = board(4, 3, 1, "s 1");
            pins(b, 0, 0, 0, 3, 0);
            b.lay(0);
            same("straight", picture(b, 0), "1111/..../....");
            keep(b, 1, 0, 0);
            due("round the keepout", b.lay(0), 5);
            same("the old one is gone", picture(b, 0), "1..1/1111/....");
            due("steps", b.about(0, 0), 5);
            b.wire(0, 0, 0, 3, 0, 0);
            due("joined by hand", b.lay(0), 0);
            due("no traces", b.rip(0), false);
            same("wires alone", picture(b, 0), "1111/..../....");
        });
        test(14, "PIN by PIN from the second on (if it is not joined with the first PIN yet)", () -> {
            CopperBoard b = board(3, 3, 1, "s 1");
            pins(b, 0, 0, 0, 2, 2, 0, 2);
            // The third pin first would make it 4: down the first column and along the last row.
            due("the second pin first", b.lay(0), 6);
            same("north, then west", picture(b, 0), "111/1.1/1.1");
            CopperBoard c = board(3, 3, 1, "s 1");
            pins(c, 0, 0, 0, 2, 0, 1, 0);
            due("the third is joined by the second's row", c.lay(0), 2);
            CopperBoard d = board(3, 3, 1, "s 1");
            pins(d, 0, 1, 1);
            due("one pin", d.lay(0), 0);
            due("no traces", d.rip(0), false);
            CopperBoard e = board(5, 5, 1, "s 1");
            pins(e, 0, 2, 2, 2, 0, 0, 2, 4, 2);
            due("four pins", e.lay(0), 6);
            same("a star", picture(e, 0), "..1../..1../11111/...../.....");
        });
        test(14, "a row of moves to any CELL joined with the first PIN (by COPPER of the NET)", () -> {
            CopperBoard b = board(5, 3, 1, "s 1");
            pins(b, 0, 0, 0, 4, 2);
            b.wire(0, 0, 0, 4, 0, 0);
            due("to the wire's end", b.lay(0), 2);
            same("straight north", picture(b, 0), "11111/....1/....1");
            CopperBoard c = board(5, 3, 1, "s 1");
            pins(c, 0, 0, 0, 4, 2);
            c.wire(0, 1, 0, 4, 0, 0);
            due("the wire is not joined", c.lay(0), 6);
            CopperBoard d = board(3, 2, 2, "s 1,v 9");
            pins(d, 0, 0, 0, 2, 0);
            d.hole(0, 0, 0, 0);
            d.wire(0, 0, 0, 1, 0, 1);
            d.hole(0, 1, 0, 0);
            due("joined by holes", d.lay(0), 1);
            CopperBoard e = board(5, 2, 1, "s 1", "s 1");
            pins(e, 0, 0, 0, 4, 0);
            e.wire(1, 1, 0, 3, 0, 0);
            due("copper of another does not join", e.lay(0), 6);
        });
        test(14, "CELLS are joined by the moves of WIRES and TRACES", () -> {
            CopperBoard b = board(4, 3, 2, "s 1,v 7");
            pins(b, 0, 0, 0, 3, 1);
            b.wire(0, 0, 0, 3, 0, 0);
            b.wire(0, 0, 1, 3, 1, 0);
            due("side by side is not joined", b.netlist(1), 1);
            due("one step", b.lay(0), 1);
            due("joined", b.netlist(1), 0);
            due("by the first move, north", b.about(0, 0), 1);
            b.rip(0);
            b.wire(0, 2, 0, 2, 1, 0);
            due("joined by hand", b.lay(0), 0);
            CopperBoard c = board(4, 3, 2, "s 1,v 7");
            c.pin(0, 0, 0, 0);
            c.pin(0, 3, 0, 1);
            c.wire(0, 0, 0, 3, 0, 0);
            c.wire(0, 0, 0, 3, 0, 1);
            due("one above the other is not joined", c.lay(0), 7);
            c.hole(0, 1, 0, 0);
            due("a hole joins", c.lay(0), 0);
            CopperBoard d = board(4, 3, 1, "s 1");
            pins(d, 0, 0, 0, 1, 0, 2, 0);
            due("pins side by side are not joined", d.netlist(1), 2);
            due("a step each", d.lay(0), 2);
            d.lay(0);
            due("joined by traces", d.netlist(1), 0);
        });
        test(14, "through FREE CELLS", () -> {
            CopperBoard b = board(3, 2, 1, "s 1", "s 1");
            pins(b, 0, 0, 0, 2, 0);
            b.pin(1, 1, 0, 0);
            due("round a pin", b.lay(0), 4);
            b.pin(1, 1, 1, 0);
            due("barred", b.lay(0), -1);
            due("its trace stays", b.about(0, 0), 4);
            CopperBoard c = board(4, 4, 1, "c 1", "s 1");
            pins(c, 0, 0, 0, 3, 0);
            c.pin(1, 1, 2, 0);
            due("one clear", c.lay(0), 3);
            CopperBoard d = board(4, 4, 1, "c 2", "s 1");
            pins(d, 0, 0, 0, 3, 0);
            d.pin(1, 1, 2, 0);
            due("two clear", d.lay(0), -1);
            CopperBoard e = board(3, 2, 2, "l 0,v 2");
            pins(e, 0, 0, 0, 2, 0);
            keep(e, 1, 0, 0);
            keep(e, 1, 1, 0);
            due("not by a layer out of its class", e.lay(0), -1);
            e.wire(0, 0, 0, 2, 0, 1);
            due("by its own wire there", e.lay(0), 2 + 1 + 1 + 2);
        });
    }

    private static void moves() {
        test(14, "north, east, south, west (a STEP), or to the LAYER below (its number and 1) or above (a VIA)", () -> {
            CopperBoard b = board(2, 2, 3, "s 3,v 8");
            b.pin(0, 0, 0, 1);
            b.pin(0, 0, 1, 1);
            due("north", b.lay(0), 3);
            b = board(2, 2, 3, "s 3,v 8");
            b.pin(0, 0, 0, 1);
            b.pin(0, 1, 0, 1);
            due("west", b.lay(0), 3);
            b = board(2, 2, 3, "s 3,v 8");
            b.pin(0, 0, 0, 2);
            b.pin(0, 0, 0, 1);
            due("below", b.lay(0), 8);
            due("a via", b.about(0, 1), 1);
            b = board(2, 2, 3, "s 3,v 8");
            b.pin(0, 0, 0, 0);
            b.pin(0, 0, 0, 1);
            due("above", b.lay(0), 8);
            b = board(2, 2, 4, "s 3,v 8");
            b.pin(0, 0, 0, 0);
            b.pin(0, 0, 0, 3);
            due("from the last layer to the first", b.lay(0), 24);
            due("length", b.about(0, 0), 0);
        });
        test(14, "rows of CELLS, straight ones", () -> {
            CopperBoard b = board(3, 3, 2, "s 1,v 9");
            pins(b, 0, 2, 0, 0, 1);
            due("no move from the end of a row to the next one", b.lay(0), 3);
            CopperBoard c = board(3, 3, 2, "s 1,v 9");
            c.pin(0, 2, 2, 0);
            c.pin(0, 0, 0, 1);
            due("no move from the last row to the next layer", c.lay(0), 4 + 9);
            CopperBoard d = board(3, 3, 1, "s 1");
            pins(d, 0, 1, 0, 1, 2);
            for (int x = 0; x < 3; x++) {
                keep(d, x, 1, 0);
            }
            due("no move from the first row to the last one", d.lay(0), -1);
        });
    }

    private static void bends() {
        test(14, "a BEND is a STEP in another direction than the latest STEP ahead of it in the row (VIAS between or not)",
                () -> {
            CopperBoard b = board(4, 3, 1, "s 1,b 9");
            pins(b, 0, 0, 0, 3, 0);
            due("the first step is none", b.lay(0), 3);
            b = board(4, 3, 1, "s 1,b 9");
            pins(b, 0, 0, 0, 3, 2);
            due("one", b.lay(0), 5 + 9);
            b = board(4, 3, 1, "s 1,b 9");
            pins(b, 0, 0, 0, 3, 0);
            keep(b, 1, 0, 0);
            due("south, west, north", b.lay(0), 5 + 2 * 9);
            b = board(3, 2, 2, "s 1,v 0,b 9");
            pins(b, 0, 0, 0);
            b.pin(0, 1, 1, 1);
            due("a via between two directions", b.lay(0), 2 + 9);
            b = board(3, 2, 2, "s 1,v 2,b 9");
            pins(b, 0, 2, 0);
            b.pin(0, 0, 0, 1);
            keep(b, 2, 0, 1);
            keep(b, 0, 0, 0);
            due("a via between two steps of one direction", b.lay(0), 2 + 2);
            b = board(2, 2, 2, "s 1,v 2,b 9");
            pins(b, 0, 0, 0);
            b.pin(0, 1, 0, 1);
            due("a via ahead of the first step", b.lay(0), 3);
            b = board(3, 3, 1, "s 1,b 9");
            pins(b, 0, 0, 0, 2, 0, 1, 2);
            due("each row begins anew", b.lay(0), 4);
            b = board(3, 2, 1, "s 1,b 9");
            pins(b, 0, 0, 0, 2, 1);
            keep(b, 2, 0, 0);
            due("one bend, not two", b.lay(0), 3 + 9);
            same("west, west, north", picture(b, 0), "1../111");
            b = board(3, 2, 2, "s 1,v 0,b 9");
            pins(b, 0, 2, 1);
            b.pin(0, 0, 0, 1);
            b.keep(0, 0, 0, 1, 1);
            b.keep(1, 1, 2, 1, 2);
            keep(b, 1, 0, 0);
            // East, east, below.. would bend behind the via: above and south is the second direction.
            due("a via up between two directions", b.lay(0), 3 + 9);
            b = board(3, 2, 2, "s 1,v 0,b 9");
            b.pin(0, 2, 1, 1);
            pins(b, 0, 0, 0);
            b.keep(0, 1, 2, 1, 1);
            keep(b, 1, 0, 1);
            due("a via down between two directions", b.lay(0), 3 + 9);
            same("east, east", picture(b, 0), "111/...");
            same("below, south", picture(b, 1), "..1/..1");
        });
        test(14, "(a BEND's, 0 .. 99; 0)", () -> {
            CopperBoard b = board(3, 3, 1, "b 99");
            pins(b, 0, 0, 0, 2, 2);
            due("99", b.lay(0), 4 + 99);
            b = board(3, 3, 1, "b 0");
            pins(b, 0, 0, 0, 2, 2);
            due("0", b.lay(0), 4);
            b = board(9, 9, 2, "s 9,v 99,b 99");
            // A snake through all rows: each second column is open at one end alone.
            for (int x = 1; x < 9; x += 2) {
                b.keep(x, x % 4 == 1 ? 0 : 1, x, x % 4 == 1 ? 7 : 8, 1);
                b.keep(x, 0, x, 8, 2);
            }
            pins(b, 0, 0, 0, 8, 8);
            due("a long row", b.lay(0), 48 * 9 + 8 * 99);
            due("length", b.about(0, 0), 48);
        });
    }

    private static void choices() {
        test(14, "The cheapest", () -> {
            for (int via = 0; via <= 4; via++) {
                CopperBoard b = board(3, 2, 2, "s 2,v " + via);
                pins(b, 0, 0, 0, 2, 0);
                keep(b, 1, 0, 0);
                due("a via for " + via, b.lay(0), Math.min(8, 4 + 2 * via));
                due("vias for " + via, b.about(0, 1), via < 2 ? 2 : 0);
            }
            for (int bend = 0; bend <= 4; bend++) {
                CopperBoard b = board(5, 4, 1, "s 1,b " + bend);
                pins(b, 0, 0, 1, 4, 1);
                keep(b, 0, 0, 0);
                keep(b, 4, 0, 0);
                keep(b, 2, 1, 0);
                keep(b, 2, 2, 0);
                // By row 0 six steps and four bends, by row 3 eight steps and two bends.
                due("a bend for " + bend, b.lay(0), Math.min(6 + 4 * bend, 8 + 2 * bend));
                due("steps for " + bend, b.about(0, 0), bend < 2 ? 6 : 8);
            }
        });
        test(14, "of several the one with the fewest moves", () -> {
            CopperBoard b = board(3, 2, 2, "s 1,v 0");
            pins(b, 0, 0, 0, 2, 1);
            keep(b, 1, 0, 0);
            // North, below, west, west, above would come first, but has five moves.
            due("three steps either way", b.lay(0), 3);
            same("west, west, north", picture(b, 0), "1../111");
            due("vias", b.about(0, 1), 0);
            CopperBoard v = board(3, 3, 2, "s 2,v 4", "s 1");
            pins(v, 0, 0, 0, 2, 0);
            v.wire(1, 1, 0, 1, 1, 0);
            // Six steps or two steps and two vias.
            due("twelve either way", v.lay(0), 12);
            due("four moves, though south is ahead of below", v.about(0, 1), 2);
            CopperBoard w = board(4, 2, 2, "s 1,v 1");
            pins(w, 0, 0, 0, 3, 0);
            keep(w, 1, 0, 0);
            due("five either way", w.lay(0), 5);
            due("five moves either way: south is ahead", w.about(0, 1), 0);
            CopperBoard c = board(3, 3, 1, "s 1,b 2");
            pins(c, 0, 0, 1, 2, 1);
            keep(c, 1, 1, 0);
            due("four steps, two bends", c.lay(0), 8);
        });
        test(14, "of several the first, by its moves from that PIN on, in the order told here", () -> {
            int[][] ends = {{2, 0, 0, 2}, {2, 2, 0, 0}, {0, 2, 2, 0}, {0, 0, 2, 2}};
            String[] pictures = {"111/1../1..", "111/..1/..1", "..1/..1/111", "111/..1/..1"};
            for (int i = 0; i < 4; i++) {
                CopperBoard b = board(3, 3, 1, "s 1");
                pins(b, 0, ends[i]);
                due("four steps", b.lay(0), 4);
                same("from " + ends[i][2] + ", " + ends[i][3], picture(b, 0), pictures[i]);
            }
            CopperBoard b = board(2, 2, 2, "s 1,v 1");
            b.pin(0, 0, 0, 1);
            b.pin(0, 1, 0, 0);
            due("west or below", b.lay(0), 2);
            same("west first", picture(b, 0), "11/..");
            b = board(2, 2, 2, "s 1,v 1");
            b.pin(0, 1, 0, 1);
            b.pin(0, 0, 0, 0);
            due("east or below", b.lay(0), 2);
            same("east first", picture(b, 0), "11/..");
            b = board(2, 2, 2, "s 1,v 1");
            b.pin(0, 0, 0, 0);
            b.pin(0, 0, 1, 1);
            due("north or above", b.lay(0), 2);
            same("north first", picture(b, 0), "1./..");
            b = board(3, 2, 3, "s 1,v 1");
            b.pin(0, 0, 0, 1);
            b.pin(0, 2, 0, 1);
            b.keep(0, 1, 2, 1, 7);
            keep(b, 1, 0, 1);
            due("below or above", b.lay(0), 4);
            same("below first", picture(b, 2), "111/...");
            same("not above", picture(b, 0), ".../...");
            b = board(3, 3, 1, "s 1");
            pins(b, 0, 0, 1, 2, 1);
            keep(b, 1, 1, 0);
            due("north or south", b.lay(0), 4);
            same("north", picture(b, 0), "111/1.1/...");
            b = board(3, 3, 1, "s 1");
            pins(b, 0, 1, 0, 1, 2);
            keep(b, 1, 1, 0);
            due("east or west", b.lay(0), 4);
            same("east", picture(b, 0), ".11/..1/.11");
        });
    }

    private static void refusals() {
        test(14, "If a PIN can't, nothing changes.", () -> {
            Supplier<CopperBoard> walled = () -> {
                CopperBoard b = board(4, 4, 1, "s 1", "s 1");
                pins(b, 0, 0, 0, 2, 0);
                b.lay(0);
                keep(b, 1, 0, 0);
                pins(b, 0, 3, 3);
                pins(b, 1, 3, 2, 2, 3);
                return b;
            };
            refused(walled, "lay(0), the third pin can't", b -> b.lay(0));
            same("its traces stay", picture(walled.get(), 0), "111./..../...2/..21");
            Supplier<CopperBoard> second = () -> {
                CopperBoard b = board(4, 4, 1, "s 1", "s 1");
                pins(b, 0, 0, 0, 3, 3, 2, 0);
                pins(b, 1, 3, 2, 2, 3);
                return b;
            };
            refused(second, "lay(0), the second pin can't", b -> b.lay(0));
            Supplier<CopperBoard> first = () -> {
                CopperBoard b = board(4, 4, 1, "s 1", "s 1");
                pins(b, 0, 3, 3, 0, 0, 2, 0, 0, 2);
                pins(b, 1, 3, 2, 2, 3);
                return b;
            };
            refused(first, "lay(0), none can", b -> b.lay(0));
        });
        test(14, "LAY: what the rows of moves cost. NONE: it can't, no PINS, no such NET.", () -> {
            refused(Bounds::rich, "lay(3) without pins", b -> b.lay(3));
            for (int net : new int[] {4, 8, -1, MIN, MAX}) {
                refused(Bounds::rich, "lay(" + net + ")", b -> b.lay(net));
            }
            refused(() -> new CopperBoard(2, 2, 1), "lay without nets", b -> b.lay(0));
            CopperBoard b = board(2, 2, 1, "s 9");
            pins(b, 0, 0, 0, 1, 0, 1, 1, 0, 1);
            due("four pins side by side", b.lay(0), 27);
        });
    }

    // ---- promises 15 and 16

    private static void costs() {
        test(15, "What LAY would cost, if it is tried (nothing changes), with VIAS or without.", () -> {
            Supplier<CopperBoard> made = () -> {
                CopperBoard b = board(3, 3, 2, "s 2,v 3", "s 1");
                pins(b, 0, 0, 0, 2, 0);
                b.lay(0);
                b.wire(1, 1, 0, 1, 1, 0);
                return b;
            };
            quiet(made, "cost(0, true)", b -> b.cost(0, true), 10);
            quiet(made, "cost(0, false)", b -> b.cost(0, false), 12);
            Supplier<CopperBoard> walled = () -> {
                CopperBoard b = made.get();
                b.wire(1, 1, 1, 1, 2, 0);
                return b;
            };
            quiet(walled, "cost(0, true)", b -> b.cost(0, true), 10);
            refused(walled, "cost(0, false)", b -> b.cost(0, false));
            quiet(() -> board(2, 2, 2, "s 1"), "no pins", b -> b.cost(0, true), -1);
            Supplier<CopperBoard> one = () -> {
                CopperBoard b = board(2, 2, 2, "s 1");
                b.pin(0, 1, 1, 1);
                return b;
            };
            quiet(one, "one pin", b -> b.cost(0, true), 0);
            quiet(one, "one pin without vias", b -> b.cost(0, false), 0);
            Supplier<CopperBoard> above = () -> {
                CopperBoard b = one.get();
                b.pin(0, 1, 1, 0);
                return b;
            };
            quiet(above, "a pin above", b -> b.cost(0, true), 5);
            refused(above, "a pin above without vias", b -> b.cost(0, false));
            Supplier<CopperBoard> hole = () -> {
                CopperBoard b = above.get();
                b.hole(0, 1, 1, 0);
                return b;
            };
            quiet(hole, "joined by a hole", b -> b.cost(0, false), 0);
        });
        test(15, "NONE: likewise.", () -> {
            for (int net : new int[] {3, 4, 8, -1, MIN, MAX}) {
                refused(Bounds::rich, "cost(" + net + ", true)", b -> b.cost(net, true));
                refused(Bounds::rich, "cost(" + net + ", false)", b -> b.cost(net, false));
            }
            Supplier<CopperBoard> walled = () -> {
                CopperBoard b = board(3, 2, 2, "s 1");
                pins(b, 0, 0, 0, 2, 0);
                b.lay(0);
                b.keep(1, 0, 1, 1, 3);
                return b;
            };
            refused(walled, "it can't", b -> b.cost(0, true));
            Supplier<CopperBoard> crossed = () -> {
                CopperBoard b = board(3, 3, 1, "s 1", "s 1");
                pins(b, 0, 0, 1, 2, 1);
                pins(b, 1, 1, 0, 1, 2);
                b.lay(0);
                return b;
            };
            refused(crossed, "the trace of net 0 bars", b -> b.cost(1, true));
            refused(crossed, "the trace of net 0 bars", b -> b.lay(1));
            quiet(crossed, "its own does not", b -> b.cost(0, true), 2);
            refused(walled, "it can't without vias", b -> b.cost(0, false));
        });
    }

    private static void rips() {
        test(16, "Its TRACES go.", () -> {
            CopperBoard b = board(4, 2, 1, "s 1", "s 1");
            pins(b, 0, 0, 0, 3, 0);
            pins(b, 1, 0, 1, 3, 1);
            b.lay(0);
            b.lay(1);
            b.wire(0, 0, 0, 1, 0, 0);
            due("rip", b.rip(0), true);
            same("pins, wires and others stay", picture(b, 0), "11.1/2222");
            due("length", b.about(0, 0), 0);
            CopperBoard c = board(2, 2, 2, "s 1");
            c.pin(0, 0, 0, 0);
            c.pin(0, 0, 0, 1);
            c.lay(0);
            due("a via alone", c.rip(0), true);
            due("vias", c.about(0, 1), 0);
        });
        test(16, "False: no such NET, it has none.", () -> {
            for (int net : new int[] {4, 8, -1, MIN, MAX}) {
                refusedFalse(Bounds::rich, "rip(" + net + ")", b -> b.rip(net));
            }
            refusedFalse(Bounds::rich, "rip(1), wires alone", b -> b.rip(1));
            refusedFalse(Bounds::rich, "rip(3), no pins", b -> b.rip(3));
            refusedFalse(() -> {
                CopperBoard b = rich();
                b.rip(0);
                return b;
            }, "rip(0) again", b -> b.rip(0));
        });
    }

    // ---- promises 17 and 18

    private static CopperBoard crossing(int... ranks) {
        CopperBoard b = board(3, 3, 1, "s 1", "s 1");
        pins(b, 0, 0, 1, 2, 1);
        pins(b, 1, 1, 0, 1, 2);
        for (int net = 0; net < ranks.length; net++) {
            due("rank", b.rank(net, ranks[net]), true);
        }
        return b;
    }

    private static void ranks() {
        test(17, "RANKS (0 .. 99, 0 at first; the lower first, then by numbers)", () -> {
            CopperBoard b = board(2, 2, 1, "s 1");
            due("at first", b.about(0, 4), 0);
            due("99", b.rank(0, 99), true);
            due("rank", b.about(0, 4), 99);
            due("0", b.rank(0, 0), true);
            due("rank", b.about(0, 4), 0);
            due("told anew", b.rank(0, 50), true);
            due("rank", b.about(0, 4), 50);
        });
        test(17, "A RANK. False: no such ones.", () -> {
            int[][] bad = {{0, 100}, {0, -1}, {0, MIN}, {0, MAX}, {4, 0}, {-1, 0}, {8, 0}, {MIN, 0}, {MAX, 0}};
            for (int[] r : bad) {
                refusedFalse(Bounds::rich, "rank(" + r[0] + ", " + r[1] + ")", b -> b.rank(r[0], r[1]));
            }
        });
    }

    private static void order() {
        test(18, "the NETS are laid by their RANKS (0 .. 99, 0 at first; the lower first, then by numbers)", () -> {
            due("0 at first: by numbers", crossing().order(), 2);
            due("both 0", crossing(0, 0).order(), 2);
            due("0 and 1", crossing(0, 1).order(), 2);
            due("1 and 0", crossing(1, 0).order(), 1);
            due("both 99", crossing(99, 99).order(), 2);
            due("99 and 98", crossing(99, 98).order(), 1);
            due("99 and 0", crossing(99, 0).order(), 1);
            due("9 and 10", crossing(9, 10).order(), 2);
            due("10 and 9", crossing(10, 9).order(), 1);
            same("net 1 alone", picture(ordered(1, 0), 0), ".2./121/.2.");
        });
        test(18, "those that can't are not", () -> {
            CopperBoard b = crossing(0, 1);
            b.lay(1);
            b.order();
            due("net 1 has no trace", b.about(1, 0), 0);
            due("net 0 has", b.about(0, 0), 2);
            CopperBoard c = board(4, 4, 1, "s 1", "s 1");
            pins(c, 0, 0, 0, 2, 0, 3, 3);
            pins(c, 1, 3, 2, 2, 3);
            due("the third pin can't", c.order(), 1);
            same("no row of the second", picture(c, 0), "1.1./..../..22/..21");
        });
        test(18, "ORDER: all TRACES go", () -> {
            CopperBoard b = crossing();
            b.lay(1);
            due("net 1 lies, yet net 0 is first", b.order(), 2);
            same("net 0", picture(b, 0), ".2./111/.2.");
            due("net 1 has none", b.rip(1), false);
            b.wire(1, 1, 0, 1, 1, 0);
            due("wires stay", b.order(), 1);
            due("net 0 has none", b.rip(0), false);
            due("net 1", b.about(1, 0), 1);
        });
        test(18, "ORDER: NETS that can't (those without PINS can), as bits.", () -> {
            due("no nets", new CopperBoard(2, 2, 1).order(), 0);
            due("no pins", board(2, 2, 1, "s 1", "s 1").order(), 0);
            CopperBoard one = board(2, 2, 1, "s 1");
            pins(one, 0, 0, 0);
            due("one pin", one.order(), 0);
            CopperBoard all = board(9, 4, 1, "s 1", "s 1", "s 1", "s 1", "s 1", "s 1", "s 1", "s 1");
            for (int net = 0; net < 8; net++) {
                pins(all, net, net, 0, net, 3);
            }
            all.keep(0, 1, 8, 1, 1);
            due("all eight can't", all.order(), 255);
            CopperBoard some = board(9, 4, 1, "s 1", "s 1", "s 1", "s 1", "s 1", "s 1", "s 1", "s 1");
            for (int net = 0; net < 8; net++) {
                pins(some, net, net, 0, net, 3);
            }
            some.keep(1, 1, 6, 1, 1);
            due("the first and the last can", some.order(), 126);
        });
    }

    private static CopperBoard ordered(int... ranks) {
        CopperBoard b = crossing(ranks);
        b.order();
        return b;
    }

    // ---- promise 23

    private static void figures() {
        test(23, "Of a NET: 0 LENGTH, 1 VIAS (of TRACES), 2 CELLS with its COPPER, 3 PINS, 4 RANK.", () -> {
            CopperBoard b = board(4, 3, 3, "v 0,s 9", "s 1");
            for (int what = 0; what < 5; what++) {
                due("nothing told", b.about(0, what), 0);
            }
            b.hole(0, 0, 0, 0);
            b.wire(0, 0, 0, 2, 0, 1);
            due("wires have no length", b.about(0, 0), 0);
            due("holes are no vias of traces", b.about(0, 1), 0);
            due("cells", b.about(0, 2), 4);
            due("no pins", b.about(0, 3), 0);
            pins(b, 0, 0, 0);
            due("a pin on a hole", b.about(0, 2), 4);
            b.pin(0, 3, 0, 2);
            due("a pin away", b.about(0, 2), 5);
            b.lay(0);
            due("length", b.about(0, 0), 1);
            due("vias", b.about(0, 1), 1);
            due("cells", b.about(0, 2), 6);
            due("pins", b.about(0, 3), 2);
            due("rank", b.about(0, 4), 0);
            due("the other one has none", b.about(1, 2) + b.about(1, 3), 0);
            b.wire(1, 0, 0, 3, 0, 0);
            b.pin(1, 3, 1, 0);
            due("cells of the other one", b.about(1, 2), 5);
            due("pins of the other one", b.about(1, 3), 1);
            due("cells stay", b.about(0, 2), 6);
        });
        test(23, "NONE: no such ones.", () -> {
            int[][] bad = {{0, -1}, {0, 5}, {0, MIN}, {0, MAX}, {4, 0}, {-1, 0}, {8, 4}, {MIN, 0}, {MAX, 0}};
            for (int[] a : bad) {
                refused(Bounds::rich, "about(" + a[0] + ", " + a[1] + ")", b -> b.about(a[0], a[1]));
            }
            refused(() -> new CopperBoard(2, 2, 1), "about without nets", b -> b.about(0, 4));
        });
        test(23, "LENGTH: STEPS of a NET's TRACES.", () -> {
            CopperBoard b = board(9, 9, 1, "s 1");
            pins(b, 0, 0, 0, 8, 8, 0, 8, 8, 0);
            b.lay(0);
            due("three rows", b.about(0, 0), 16 + 8);
            CopperBoard c = board(4, 2, 1, "s 1");
            pins(c, 0, 0, 0, 3, 0);
            c.wire(0, 1, 0, 2, 0, 0);
            due("over a wire that is not joined", c.lay(0), 3);
            due("steps on the wire are traces, too", c.about(0, 0), 3);
        });
    }
}
