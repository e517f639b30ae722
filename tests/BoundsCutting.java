import java.util.function.Supplier;

/** Boundary cases of promises 20 to 22, 32 and 39: what is in the way, small boards, a pin that moves late. */
final class BoundsCutting extends Bounds {
    static void all() {
        reached();
        walls();
        wallNets();
        bars();
        barSets();
        together();
        togetherSizes();
        late();
        lateSets();
        why();
    }

    // ---- promise 20

    private static void reached() {
        test(20, "CUT of a NET, as others lie, its TRACES gone", () -> {
            Supplier<CopperBoard> made = () -> {
                CopperBoard b = board(4, 2, 1, "s 1", "s 1");
                pins(b, 0, 0, 0, 3, 0);
                b.lay(0);
                b.keep(1, 0, 2, 1, 1);
                return b;
            };
            due("free by its trace", made.get().free(0, 1, 0, 0), 1);
            quiet(made, "cut(0, 0)", b -> b.cut(0, 0), 2);
            quiet(made, "cut(0, 1)", b -> b.cut(0, 1), 1);
            quiet(made, "cut(0, 2)", b -> b.cut(0, 2), 2);
            quiet(made, "cut(0, 3)", b -> b.cut(0, 3), 0);
            CopperBoard b = board(4, 2, 1, "s 1", "s 1");
            pins(b, 0, 0, 0, 3, 0);
            pins(b, 1, 1, 0, 1, 1);
            due("cut off by two pins", b.cut(0, 0), 2);
            due("all but two pins", b.cut(1, 0), 6);
            CopperBoard c = board(4, 3, 1, "s 1", "s 1");
            pins(c, 0, 0, 0, 3, 0);
            pins(c, 1, 1, 0, 1, 2);
            c.lay(1);
            due("cut off by a trace", c.cut(0, 0), 3);
            c.rip(1);
            due("all but two pins", c.cut(0, 0), 10);
            CopperBoard d = board(4, 3, 2, "s 1", "l 0");
            pins(d, 0, 1, 0, 1, 2);
            pins(d, 1, 0, 0, 3, 0);
            due("all but the pins of net 0", d.cut(1, 0), 10);
            d.lay(0);
            due("cut off by the trace of net 0", d.cut(1, 0), 3);
            due("by net 0", d.cut(1, 3), 1);
        });
        test(20, "REACHED are CELLS that moves through FREE ones lead to from its first PIN (that one, too)", () -> {
            CopperBoard b = board(3, 3, 2, "l 0", "s 1");
            pins(b, 0, 0, 0);
            b.pin(1, 1, 0, 0);
            b.pin(1, 0, 1, 0);
            due("the first pin alone", b.cut(0, 0), 1);
            due("its wall", b.cut(0, 2), 3);
            pins(b, 0, 2, 2);
            due("from the first one, not from others", b.cut(0, 0), 1);
            due("the second pin", b.cut(0, 1), 1);
            CopperBoard c = board(9, 9, 4, "s 1");
            pins(c, 0, 4, 4);
            due("the whole board", c.cut(0, 0), 324);
            due("no wall", c.cut(0, 2), 0);
            due("no nets", c.cut(0, 3), 0);
            CopperBoard d = board(3, 3, 2, "l 0");
            d.pin(0, 1, 1, 1);
            due("a pin out of its layers, and all the layer above", d.cut(0, 0), 10);
            CopperBoard e = board(3, 3, 3, "l 0");
            e.pin(0, 1, 1, 2);
            due("two layers away", e.cut(0, 0), 1);
            due("its wall", e.cut(0, 2), 5);
        });
        test(20, "CUT: 0 how many CELLS are REACHED, 1 its lowest PIN that is not (NONE: all are), 2 how many CELLS the WALL has, "
                + "3 NETS with COPPER", () -> {
            // Of the first column two cells are reached; the third is a keepout, the second column net 1's.
            CopperBoard b = board(4, 3, 1, "s 1", "s 1");
            pins(b, 0, 0, 0, 0, 1, 3, 0);
            b.wire(1, 1, 0, 1, 2, 0);
            keep(b, 0, 2, 0);
            int[] want = {2, 2, 3, 2};
            for (int what = 0; what < 4; what++) {
                due("cut(0, " + what + ")", b.cut(0, what), want[what]);
            }
        });
        test(20, "1 its lowest PIN that is not (NONE: all are)", () -> {
            CopperBoard b = board(4, 4, 1, "s 1", "s 1");
            pins(b, 0, 0, 0);
            due("the first is", b.cut(0, 1), -1);
            pins(b, 0, 1, 0, 3, 3, 0, 3);
            due("all are", b.cut(0, 1), -1);
            keep(b, 3, 2, 0);
            keep(b, 2, 3, 0);
            due("the third is not", b.cut(0, 1), 2);
            keep(b, 0, 2, 0);
            keep(b, 1, 3, 0);
            due("nor the fourth: the lowest", b.cut(0, 1), 2);
            CopperBoard c = board(4, 4, 1, "s 1");
            pins(c, 0, 0, 0, 1, 0, 0, 3, 3, 3);
            c.keep(3, 2, 3, 2, 1);
            c.keep(2, 3, 2, 3, 1);
            due("the fourth is not", c.cut(0, 1), 3);
        });
    }

    private static void walls() {
        test(20, "the WALL: CELLS of the board one move from these, not REACHED", () -> {
            CopperBoard b = board(4, 3, 3, "l 1", "s 1");
            b.pin(0, 0, 0, 1);
            due("all cells above and below", b.cut(0, 2), 24);
            b.wire(1, 1, 0, 1, 2, 1);
            due("one column reached", b.cut(0, 0), 3);
            due("three beside, three above, three below", b.cut(0, 2), 9);
            b.keep(0, 1, 0, 1, 2);
            due("one cell reached", b.cut(0, 0), 1);
            due("a keepout is of the wall, too", b.cut(0, 2), 4);
            CopperBoard c = board(3, 3, 1, "s 1");
            pins(c, 0, 1, 1);
            c.keep(0, 0, 2, 2, 1);
            due("four neighbours, no corners", c.cut(0, 2), 4);
            CopperBoard d = board(3, 3, 1, "s 1");
            pins(d, 0, 2, 0);
            d.keep(0, 0, 2, 2, 1);
            due("two at a corner, not the next row's first", d.cut(0, 2), 2);
            CopperBoard e = board(3, 3, 1, "s 1", "s 1");
            pins(e, 0, 0, 0);
            e.pin(1, 1, 1, 0);
            due("a cell beside four counts once", e.cut(0, 2), 1);
        });
    }

    private static void wallNets() {
        test(20, "3 NETS with COPPER that keeps CELLS of the WALL from being FREE (of LAYERS of the CLASS, no KEEPOUTS), as bits.",
                () -> {
            CopperBoard b = board(5, 3, 2, "l 0", "s 1", "s 1", "s 1");
            pins(b, 0, 0, 0);
            b.wire(1, 2, 0, 2, 2, 0);
            due("one", b.cut(0, 3), 2);
            b.wire(2, 1, 0, 1, 2, 1);
            due("copper in a layer out of its class does not", b.cut(0, 3), 2);
            b.wire(3, 2, 0, 3, 0, 0);
            due("two in one cell", b.cut(0, 3), 10);
            keep(b, 2, 0, 0);
            due("a keepout is none's doing", b.cut(0, 3), 2);
            b.keep(2, 1, 2, 2, 1);
            due("keepouts alone", b.cut(0, 3), 0);
            CopperBoard f = board(5, 3, 3, "l 2", "s 1", "s 1");
            f.pin(0, 0, 0, 2);
            f.wire(1, 2, 0, 2, 2, 2);
            f.wire(2, 0, 0, 4, 0, 1);
            due("in the last layer", f.cut(0, 3), 2);
            CopperBoard c = board(6, 3, 1, "c 2", "s 1", "s 1");
            pins(c, 0, 0, 0);
            pins(c, 1, 3, 0);
            pins(c, 2, 5, 0);
            due("at most clear away from a wall's cell", c.cut(0, 3), 2);
            CopperBoard d = board(6, 3, 1, "c 2", "s 1", "s 1");
            pins(d, 0, 0, 0);
            pins(d, 1, 4, 0);
            pins(d, 2, 5, 1);
            due("net 2 is three from the wall's first column", d.cut(0, 3), 2);
            CopperBoard e = board(6, 3, 1, "s 1", "s 1", "c 2");
            pins(e, 0, 0, 0);
            pins(e, 1, 2, 0, 2, 2);
            e.lay(1);
            pins(e, 2, 4, 1);
            due("the greater clear; traces keep, too", e.cut(0, 3), 6);
        });
        test(20, "NONE: no PINS, no such ones.", () -> {
            refused(Bounds::rich, "cut(3, 0) without pins", b -> b.cut(3, 0));
            int[][] bad = {{0, -1}, {0, 4}, {0, MIN}, {0, MAX}, {4, 0}, {-1, 0}, {8, 1}, {MIN, 2}, {MAX, 3}, {3, 3}};
            for (int[] c : bad) {
                refused(Bounds::rich, "cut(" + c[0] + ", " + c[1] + ")", b -> b.cut(c[0], c[1]));
            }
        });
    }

    // ---- promise 21

    /** Net 7 goes down a column that the first so many others cross. */
    private static CopperBoard crossed(int many) {
        String[] texts = {"s 1", "s 1", "s 1", "s 1", "s 1", "s 1", "s 1", "s 1"};
        CopperBoard b = board(9, 9, 1, texts);
        for (int net = 0; net < many; net++) {
            pins(b, net, 0, net + 1, 8, net + 1);
            b.lay(net);
        }
        pins(b, 7, 4, 0, 4, 8);
        return b;
    }

    private static void bars() {
        test(21, "BARS, as bits (0: it can).", () -> {
            for (int many = 0; many <= 7; many++) {
                int m = many;
                quiet(() -> crossed(m), many + " rows", b -> b.bars(7), (1 << many) - 1);
            }
            Supplier<CopperBoard> first = () -> {
                String[] texts = {"s 1", "s 1", "s 1", "s 1", "s 1", "s 1", "s 1", "s 1"};
                CopperBoard b = board(9, 9, 1, texts);
                for (int net = 1; net < 8; net++) {
                    pins(b, net, 0, net, 8, net);
                    b.lay(net);
                }
                pins(b, 0, 4, 0, 4, 8);
                return b;
            };
            quiet(first, "all but net 0", b -> b.bars(0), 254);
            for (int last = 1; last < 8; last++) {
                int l = last;
                quiet(() -> {
                    CopperBoard b = first.get();
                    for (int net = 1; net < 8; net++) {
                        if (net != l) {
                            b.rip(net);
                        }
                    }
                    return b;
                }, "net " + l + " alone", b -> b.bars(0) * 256 + b.why(0), 257 << l);
            }
            Supplier<CopperBoard> one = () -> {
                CopperBoard b = board(2, 2, 1, "s 1", "s 1");
                pins(b, 0, 0, 0);
                b.wire(1, 1, 0, 1, 1, 0);
                return b;
            };
            quiet(one, "one pin", b -> b.bars(0), 0);
            Supplier<CopperBoard> laid = () -> {
                CopperBoard b = crossed(0);
                b.lay(7);
                return b;
            };
            quiet(laid, "laid already", b -> b.bars(7), 0);
        });
        test(21, "NONE: none help, no PINS, no such NET.", () -> {
            refused(Bounds::rich, "bars(3) without pins", b -> b.bars(3));
            for (int net : new int[] {4, 8, -1, MIN, MAX}) {
                refused(Bounds::rich, "bars(" + net + ")", b -> b.bars(net));
            }
            refused(() -> {
                CopperBoard b = crossed(7);
                b.keep(0, 5, 8, 5, 1);
                return b;
            }, "a keepout", b -> b.bars(7));
            refused(() -> {
                CopperBoard b = crossed(3);
                b.wire(1, 0, 2, 8, 2, 0);
                return b;
            }, "a wire along a trace", b -> b.bars(7));
            refused(() -> {
                CopperBoard b = board(3, 3, 1, "c 1", "s 1");
                pins(b, 0, 0, 0, 2, 0);
                pins(b, 1, 0, 2, 2, 1);
                b.lay(1);
                return b;
            }, "a pin too near", b -> b.bars(0));
        });
    }

    private static void barSets() {
        test(21, "BARS: the fewest other NETS without whose TRACES it can be laid", () -> {
            due("0 and 1 in the first row, 2 in the last one", inRows(0, 0, 2).bars(4), 4);
            due("0 and 2 in the first row, 1 in the last one", inRows(0, 2, 0).bars(4), 2);
            due("1 and 2 in the first row, 0 in the last one", inRows(2, 0, 0).bars(4), 1);
            due("none in the last row", inRows(0, 0).bars(4), 0);
        });
        test(21, "(of several the set with the lower NET where two first differ)", () -> {
            due("0, 3 or 1, 2", inRows(0, 2, 2, 0).bars(4), 9);
            due("1, 2 or 0, 3", inRows(2, 0, 0, 2).bars(4), 9);
            due("0, 2 or 1, 3", inRows(0, 2, 0, 2).bars(4), 5);
            due("0, 1 or 2, 3", inRows(0, 0, 2, 2).bars(4), 3);
            due("2, 3 or 0, 1", inRows(2, 2, 0, 0).bars(4), 3);
            due("0 or 1", inRows(2, 0).bars(4), 1);
            due("0, 1 or 0, 2", halves(0, 2).bars(3), 3);
            due("0, 2 or 0, 1", halves(2, 0).bars(3), 3);
            CopperBoard b = inRows(0, 2, 2, 0);
            b.rip(3);
            due("net 0 alone", b.bars(4), 1);
            b.lay(3);
            b.rip(2);
            due("net 1 alone, though 0 is lower", b.bars(4), 2);
            b.rip(0);
            b.rip(3);
            due("none", b.bars(4), 0);
        });
    }

    /** Net 4 may go by the first row or the last one; each other net lies in the one or the other, two at most in each. */
    private static CopperBoard inRows(int... rows) {
        CopperBoard b = board(9, 3, 3, "v 0", "v 0", "v 0", "v 0", "l 0");
        b.keep(1, 1, 7, 1, 1);
        b.keep(2, 0, 2, 2, 2);
        b.keep(6, 0, 6, 2, 2);
        // The last layer gives the others a longer way.
        for (int row = 0; row <= 2; row += 2) {
            keep(b, 2, row, 2);
            keep(b, 6, row, 2);
        }
        int[] taken = new int[3];
        for (int net = 0; net < rows.length; net++) {
            int column = 1 + 4 * taken[rows[net]];
            taken[rows[net]]++;
            b.pin(net, column, rows[net], 1);
            b.pin(net, column + 2, rows[net], 1);
            b.lay(net);
        }
        pins(b, 4, 0, 1, 8, 1);
        return b;
    }

    /** Net 0 bars the middle column, nets 1 and 2 one row each to the west of it. */
    private static CopperBoard halves(int first, int second) {
        CopperBoard b = board(9, 3, 2, "v 0", "v 0", "v 0", "l 0");
        b.keep(1, 1, 3, 1, 1);
        b.keep(5, 1, 7, 1, 1);
        b.keep(2, 0, 2, 2, 2);
        keep(b, 4, 1, 1);
        b.pin(0, 4, 0, 1);
        b.pin(0, 4, 2, 1);
        b.lay(0);
        for (int net = 1; net < 3; net++) {
            b.pin(net, 1, net == 1 ? first : second, 1);
            b.pin(net, 3, net == 1 ? first : second, 1);
            b.lay(net);
        }
        pins(b, 3, 0, 1, 8, 1);
        return b;
    }

    // ---- promise 22

    /** Three nets side by side from the first to the last column, or crossing one another. */
    private static CopperBoard lanes(int wide, int deep, int layers, boolean crossing) {
        CopperBoard b = board(wide, deep, layers, "s 1", "s 1", "s 1", "s 1");
        for (int net = 0; net < 4 && net < deep; net++) {
            pins(b, net, 0, net, wide - 1, crossing ? deep - 1 - net : net);
        }
        return b;
    }

    private static void together() {
        test(22, "whether rows of moves can be found for all, FREE of one another, too, other NETS as they lie", () -> {
            quiet(() -> lanes(6, 4, 1, false), "side by side", b -> b.together(7), 1);
            quiet(() -> lanes(6, 4, 1, true), "crossing", b -> b.together(7), 0);
            quiet(() -> lanes(6, 4, 1, true), "two crossing", b -> b.together(3), 0);
            quiet(() -> lanes(6, 4, 1, true), "one", b -> b.together(8), 1);
            quiet(() -> lanes(4, 3, 2, true), "two on two layers", b -> b.together(5), 1);
            Supplier<CopperBoard> laid = () -> {
                CopperBoard b = board(5, 3, 1, "s 1", "s 1");
                pins(b, 0, 0, 1, 4, 1);
                pins(b, 1, 1, 0, 3, 0);
                keep(b, 2, 0, 0);
                b.lay(0);
                return b;
            };
            quiet(laid, "their own traces are gone, not the cheapest row counts", b -> b.together(3), 1);
            quiet(laid, "others lie", b -> b.together(2), 0);
            Supplier<CopperBoard> barred = () -> {
                CopperBoard b = board(4, 3, 1, "s 1", "s 1", "s 1");
                pins(b, 0, 1, 0, 1, 2);
                pins(b, 1, 0, 0, 0, 2);
                pins(b, 2, 0, 1, 3, 1);
                b.lay(2);
                return b;
            };
            quiet(barred, "another lies across", b -> b.together(3), 0);
            quiet(barred, "it is of the set", b -> b.together(5), 0);
            quiet(barred, "alone", b -> b.together(4), 1);
            for (int clear = 0; clear <= 2; clear++) {
                for (int kept = 0; kept < 4; kept++) {
                    CopperBoard b = board(6, 4, 1, "s 1", "c " + clear);
                    pins(b, 0, 0, 0, 5, 0);
                    pins(b, 1, 0, 3, 5, 3);
                    if ((kept & 1) != 0) {
                        keep(b, 2, 0, 0);
                    }
                    if ((kept & 2) != 0) {
                        keep(b, 2, 3, 0);
                    }
                    int between = kept == 0 ? 2 : kept == 3 ? 0 : 1;
                    due("clear " + clear + ", rows between " + between, b.together(3), between >= clear ? 1 : 0);
                    CopperBoard c = board(4, 6, 1, "s 1", "c " + clear);
                    pins(c, 0, 0, 0, 0, 5);
                    pins(c, 1, 3, 0, 3, 5);
                    if ((kept & 1) != 0) {
                        keep(c, 0, 2, 0);
                    }
                    if ((kept & 2) != 0) {
                        keep(c, 3, 2, 0);
                    }
                    due("clear " + clear + ", columns between " + between, c.together(3), between >= clear ? 1 : 0);
                }
            }
        });
        test(22, "whether rows of moves can be found for all", () -> {
            // One step after the other through a row or a column, both ways, with another net beside.
            int[][] ends = {{0, 0, 3, 0}, {3, 0, 0, 0}, {0, 2, 3, 2}, {3, 2, 0, 2}, {0, 0, 0, 2}, {0, 2, 0, 0}, {3, 0, 3, 2},
                {3, 2, 3, 0}};
            for (int net = 0; net < 2; net++) {
                for (int[] e : ends) {
                    CopperBoard b = board(4, 3, 1, "s 1", "s 1");
                    pins(b, net, e);
                    pins(b, 1 - net, 1, 1, 2, 1);
                    due("from " + e[0] + ", " + e[1] + " to " + e[2] + ", " + e[3], b.together(3), 1);
                }
                for (int last = 1; last < 4; last++) {
                    CopperBoard b = board(2, 2, 4, "s 1", "s 1");
                    b.pin(net, 0, 0, 0);
                    b.pin(net, 0, 0, last);
                    b.pin(1 - net, 1, 0, last);
                    b.pin(1 - net, 1, 0, 0);
                    b.keep(0, 1, 1, 1, 15);
                    due("down and up to " + last, b.together(3), 1);
                    b.keep(0, 0, 1, 0, 1 << last - 1);
                    due("kept on the way to " + last, b.together(3), last == 1 ? 1 : 0);
                }
                CopperBoard c = board(4, 2, 1, "s 1", "s 1");
                pins(c, net, 0, 1, 1, 0);
                keep(c, 1, 1, 0);
                pins(c, 1 - net, 2, 0, 3, 0);
                due("through the first cell of all", c.together(3), 1);
                keep(c, 0, 0, 0);
                due("without it", c.together(3), 0);
            }
            CopperBoard b = board(6, 4, 1, "s 1", "s 1", "s 1");
            pins(b, 0, 0, 0, 5, 0);
            pins(b, 1, 0, 1, 5, 3);
            pins(b, 2, 0, 3, 5, 1);
            due("the first and the second", b.together(3), 1);
            due("the first and the third", b.together(5), 1);
            due("the second and the third cross", b.together(6), 0);
            due("all three", b.together(7), 0);
            CopperBoard d = board(4, 3, 2, "c 1", "c 1");
            pins(d, 0, 0, 0, 3, 0);
            pins(d, 1, 0, 1, 3, 1);
            due("pins side by side are free for their nets", d.together(3), 1);
            CopperBoard e = board(4, 2, 1, "s 1");
            pins(e, 0, 0, 0, 3, 0);
            e.lay(0);
            e.keep(1, 0, 1, 1, 1);
            due("its trace on a keepout is gone", e.together(1), 0);
        });
        test(22, "other NETS as they lie", () -> {
            for (int turned = 0; turned < 2; turned++) {
                int t = turned;
                CopperBoard b = board(3, 2, 1, "s 1");
                pins(b, 0, t == 0 ? new int[] {2, 0, 0, 1} : new int[] {0, 1, 2, 0});
                b.keep(1, 0, 1, 1, 1);
                due("no way from the end of a row to the next", b.together(1), 0);
                CopperBoard c = board(3, 2, 2, "s 1");
                c.pin(0, 0, 1 - t, t);
                c.pin(0, 0, t, 1 - t);
                c.keep(0, 0, 2, 0, 1);
                c.keep(0, 1, 2, 1, 2);
                due("no way from the last row to the next layer", c.together(1), 0);
                CopperBoard d = board(4, 3, 1, "c 1", "c 1");
                pins(d, t, 3, 0, 3, 2);
                pins(d, 1 - t, 0, 0, 0, 2);
                d.keep(1, 0, 2, 2, 1);
                due("the other side is not near", d.together(3), 1);
                CopperBoard e = board(4, 3, 2, "c 1", "c 1");
                e.pin(t, 0, 2, 0);
                e.pin(t, 3, 2, 0);
                e.pin(1 - t, 0, 0, 1);
                e.pin(1 - t, 3, 0, 1);
                e.keep(0, 0, 3, 1, 1);
                e.keep(0, 1, 3, 2, 2);
                due("the last row is not near the next layer's first", e.together(3), 1);
            }
        });
        test(22, "TOGETHER (1, 0) of NETS (bits, not 0).", () -> {
            refused(() -> lanes(6, 4, 1, false), "together(0)", b -> b.together(0));
            quiet(() -> lanes(6, 4, 1, false), "together(8)", b -> b.together(8), 1);
        });
    }

    private static void togetherSizes() {
        test(22, "a board of 24 CELLS at most", () -> {
            int[][] sizes = {{6, 4, 1, 1}, {5, 5, 1, -1}, {4, 3, 2, 1}, {3, 4, 2, 1}, {9, 2, 1, 1}, {8, 3, 1, 1}, {9, 3, 1, -1},
                {2, 4, 3, 1}, {3, 3, 3, -1}, {3, 2, 4, 1}, {2, 2, 4, 1}, {2, 2, 1, 1}, {5, 5, 2, -1}, {9, 9, 4, -1},
                {3, 3, 2, 1}, {7, 2, 2, -1}, {6, 2, 2, 1}, {2, 3, 4, 1}, {2, 4, 4, -1}, {5, 2, 2, 1}};
            for (int[] s : sizes) {
                CopperBoard b = lanes(s[0], s[1], s[2], false);
                due(s[0] + " by " + s[1] + " by " + s[2], b.together(3), s[3]);
            }
        });
        test(22, "(up to three NETS of two PINS each without WIRES", () -> {
            refused(() -> lanes(6, 4, 1, false), "four nets", b -> b.together(15));
            quiet(() -> lanes(6, 4, 1, false), "three nets", b -> b.together(14), 1);
            Supplier<CopperBoard> one = () -> {
                CopperBoard b = lanes(6, 3, 1, false);
                pins(b, 3, 1, 1);
                return b;
            };
            refused(one, "a net of one pin", b -> b.together(8));
            refused(one, "one of two", b -> b.together(9));
            refused(() -> lanes(6, 3, 1, false), "a net without pins", b -> b.together(12));
            Supplier<CopperBoard> three = () -> {
                CopperBoard b = lanes(6, 4, 1, false);
                pins(b, 1, 1, 1);
                return b;
            };
            refused(three, "a net of three pins", b -> b.together(2));
            refused(three, "one of three", b -> b.together(7));
            quiet(three, "the others", b -> b.together(13), 1);
            Supplier<CopperBoard> wired = () -> {
                CopperBoard b = lanes(4, 3, 2, false);
                b.hole(2, 1, 2, 0);
                return b;
            };
            refused(wired, "a net with a hole", b -> b.together(4));
            quiet(wired, "the others", b -> b.together(3), 1);
            quiet(() -> {
                CopperBoard b = wired.get();
                b.unwire(2);
                return b;
            }, "without it", b -> b.together(7), 1);
        });
        test(22, "NONE: not told, no such ones.", () -> {
            for (int bits : new int[] {16, 17, 31, 255, 256, -1, MIN, MAX, MIN + 1, 1 << 30}) {
                refused(() -> lanes(6, 4, 1, false), "together(" + bits + ")", b -> b.together(bits));
            }
            refused(() -> new CopperBoard(2, 2, 1), "together(1) without nets", b -> b.together(1));
            refused(Bounds::rich, "together(2): wires", b -> b.together(2));
        });
    }

    // ---- promise 32

    private static CopperBoard rowsBelow(int many) {
        CopperBoard b = board(5, 6, 2, "v 1", "v 1", "v 1", "v 1", "l 0");
        for (int i = 0; i < many; i++) {
            pins(b, i, 0, i + 1, 4, i + 1);
        }
        pins(b, 4, 2, 0, 3, 0);
        b.order();
        return b;
    }

    private static void late() {
        test(32, "LATE: a PIN of a NET goes to another CELL; all TRACES of that NET go", () -> {
            CopperBoard b = board(5, 3, 2, "s 1", "s 1");
            pins(b, 0, 0, 0, 4, 0, 4, 2);
            b.lay(0);
            due("the second pin", b.late(0, 1, 0, 2, 0), 0);
            same("laid anew", picture(b, 0), "1..../1..../11111");
            due("pins", b.about(0, 3), 3);
            due("the first pin", b.late(0, 0, 2, 2, 1), 0);
            same("upper", picture(b, 0), "...../...../11111");
            same("lower", picture(b, 1), "...../...../..1..");
            due("a pin may go where it was", b.late(0, 0, 0, 0, 0), 0);
            due("its number stays", b.spokes(0, 0), 2);
            b.wire(0, 0, 0, 4, 0, 1);
            due("wires stay", b.late(0, 2, 3, 1, 0), 0);
            due("wires", b.copper(2, 0, 1), 1);
            CopperBoard c = board(3, 3, 1, "s 1", "s 1");
            pins(c, 0, 0, 0, 2, 0);
            c.lay(0);
            c.wire(1, 0, 2, 2, 2, 0);
            c.keep(1, 1, 1, 1, 1);
            due("to a cell with copper of another", c.late(0, 1, 2, 2, 0), 0);
            due("both there", c.copper(2, 2, 0), 3);
            due("to a keepout", c.late(0, 1, 1, 1, 0), 0);
            due("one pin more", c.pin(1, 2, 2, 0), 0);
            CopperBoard e = board(4, 3, 1, "s 1", "s 1");
            e.wire(0, 0, 0, 3, 0, 0);
            e.wire(1, 1, 0, 1, 2, 0);
            pins(e, 1, 1, 2);
            pins(e, 0, 0, 0);
            due("a net with a wire over another's", e.late(0, 0, 0, 1, 0), 0);
            same("both wires stay", picture(e, 0), "1311/12../.2..");
            CopperBoard d = board(3, 3, 1, "s 1");
            pins(d, 0, 0, 0);
            due("a net of one pin", d.late(0, 0, 2, 2, 0), 0);
            same("moved", picture(d, 0), ".../.../..1");
        });
        test(32, "If there are none such, nothing changes.", () -> {
            refused(() -> rowsBelow(4), "four would have to go", b -> b.late(4, 1, 2, 5, 0));
            Supplier<CopperBoard> walled = () -> {
                CopperBoard b = board(5, 3, 1, "s 1", "s 1");
                pins(b, 0, 0, 0, 4, 0);
                pins(b, 1, 0, 1, 4, 1);
                b.order();
                return b;
            };
            refused(walled, "net 1 could not be laid then", b -> b.late(0, 1, 2, 2, 0));
            refused(() -> {
                CopperBoard b = walled.get();
                b.keep(1, 0, 1, 0, 1);
                return b;
            }, "the net itself can't", b -> b.late(0, 1, 2, 0, 0));
        });
        test(32, "LATE: the other NETS, as bits. NONE: none such, no such ones, a PIN is there.", () -> {
            int[][] bad = {{4, 0, 1, 2, 0}, {-1, 0, 1, 2, 0}, {MIN, 0, 1, 2, 0}, {MAX, 0, 1, 2, 0}, {0, 2, 1, 2, 0},
                {0, -1, 1, 2, 0}, {0, 4, 1, 2, 0}, {0, MIN, 1, 2, 0}, {0, MAX, 1, 2, 0}, {3, 0, 1, 2, 0}, {0, 0, 4, 2, 0},
                {0, 0, -1, 2, 0}, {0, 0, 1, 3, 0}, {0, 0, 1, -1, 0}, {0, 0, 1, 2, 2}, {0, 0, 1, 2, -1}, {0, 0, 0, 0, 0},
                {0, 0, 3, 0, 0}, {0, 0, 0, 1, 0}, {2, 1, 3, 2, 1}, {0, 0, MIN, MAX, MIN}};
            for (int[] l : bad) {
                refused(Bounds::rich, "late(" + l[0] + ", " + l[1] + ", " + l[2] + ", " + l[3] + ", " + l[4] + ")",
                        b -> b.late(l[0], l[1], l[2], l[3], l[4]));
            }
        });
    }

    private static void lateSets() {
        test(32, "then the fewest other NETS (three at most; of several as BARS) whose TRACES go, too", () -> {
            for (int many = 0; many <= 3; many++) {
                CopperBoard b = rowsBelow(many);
                due(many + " rows", b.late(4, 1, 2, 5, 0), (1 << many) - 1);
                due("length", b.about(4, 0), 5);
                for (int net = 0; net < many; net++) {
                    due("vias of " + net, b.about(net, 1), 2);
                }
                due("all is joined", b.netlist(1), 0);
                due("no shorts", b.netlist(0), 0);
            }
            due("four are too many", rowsBelow(4).late(4, 1, 2, 5, 0), -1);
            int[][] rows = {{0, 2, 2, 0}, {2, 0, 0, 2}, {0, 2, 0, 2}, {0, 0, 2, 2}, {0, 0, 2}, {0, 2, 0}, {2, 0, 0}, {0, 0}};
            int[] sets = {9, 9, 5, 3, 4, 2, 1, 0};
            for (int i = 0; i < rows.length; i++) {
                CopperBoard b = inRows(rows[i]);
                due("the set of bars", b.bars(4), sets[i]);
                due("of several as BARS", b.late(4, 1, 8, 2, 0), sets[i]);
                for (int net = 0; net < rows[i].length; net++) {
                    due("the way round", b.about(net, 0), (sets[i] >> net & 1) != 0 ? 4 : 2);
                }
            }
        });
        test(32, "so that the NET and behind it these, by numbers, can all be laid; so they are", () -> {
            CopperBoard b = board(5, 4, 2, "l 0", "v 1", "s 1");
            pins(b, 0, 0, 0, 4, 0);
            pins(b, 1, 1, 1, 3, 1);
            keep(b, 0, 1, 0);
            keep(b, 4, 1, 0);
            b.order();
            due("net 1 goes below", b.late(0, 1, 2, 3, 0), 2);
            due("its vias", b.about(1, 1), 2);
            due("its length", b.about(1, 0), 2);
            due("length", b.about(0, 0), 5);
            CopperBoard c = rowsBelow(3);
            c.rank(0, 9);
            due("ranks don't count", c.late(4, 1, 2, 5, 0), 7);
            for (int rank = 0; rank <= 9; rank += 9) {
                CopperBoard d = rowsBelow(2);
                d.rank(0, rank);
                d.keep(2, 0, 2, 2, 2);
                keep(d, 2, 4, 1);
                // Both would like the gap of row 3 below: net 0 has it, being the lower.
                due("two", d.late(4, 1, 2, 5, 0), 3);
                due("net 0", d.about(0, 0), 8);
                due("net 1", d.about(1, 0), 10);
            }
        });
    }

    // ---- promise 39

    private static void why() {
        test(39, "WHY, as bits (0: it can without VIAS).", () -> {
            for (int many = 0; many <= 7; many++) {
                int m = many;
                quiet(() -> {
                    String[] texts = {"s 1", "s 1", "s 1", "s 1", "s 1", "s 1", "s 1", "s 1"};
                    CopperBoard b = board(3, 9, 2, texts);
                    for (int net = 0; net < m; net++) {
                        pins(b, net, 0, net + 1, 2, net + 1);
                        b.lay(net);
                    }
                    pins(b, 7, 1, 0, 1, 8);
                    return b;
                }, many + " rows", b -> b.why(7) * 2 + (b.bars(7) == 0 ? 1 : 0), ((1 << many) - 1) * 2 + 1);
            }
            Supplier<CopperBoard> one = () -> {
                CopperBoard b = board(2, 2, 2, "s 1");
                b.pin(0, 1, 1, 1);
                return b;
            };
            quiet(one, "one pin", b -> b.why(0), 0);
        });
        test(39, "NONE: none help, no PINS, no such NET.", () -> {
            refused(Bounds::rich, "why(3) without pins", b -> b.why(3));
            for (int net : new int[] {4, 8, -1, MIN, MAX}) {
                refused(Bounds::rich, "why(" + net + ")", b -> b.why(net));
            }
            Supplier<CopperBoard> above = () -> {
                CopperBoard b = board(2, 2, 2, "s 1");
                b.pin(0, 1, 1, 0);
                b.pin(0, 1, 1, 1);
                b.lay(0);
                return b;
            };
            due("it can with vias", above.get().bars(0), 0);
            refused(above, "pins in two layers", b -> b.why(0));
            Supplier<CopperBoard> hole = () -> {
                CopperBoard b = above.get();
                b.hole(0, 0, 0, 0);
                return b;
            };
            quiet(hole, "a hole laid by hand is no via of a row", b -> b.why(0), -1);
            refused(() -> {
                CopperBoard b = board(3, 3, 2, "s 1", "s 1");
                pins(b, 0, 0, 0, 2, 0);
                b.hole(0, 0, 0, 0);
                b.wire(1, 1, 0, 1, 2, 0);
                pins(b, 1, 1, 2);
                b.pin(1, 0, 2, 1);
                b.lay(1);
                return b;
            }, "a hole, and a wire across", b -> b.why(0));
            Supplier<CopperBoard> wire = () -> {
                CopperBoard b = hole.get();
                b.wire(0, 0, 0, 0, 1, 0);
                b.wire(0, 0, 1, 1, 1, 0);
                return b;
            };
            quiet(wire, "joined with the first pin it helps", b -> b.why(0), 0);
            for (int other = 1; other < 3; other++) {
                int o = other;
                quiet(() -> {
                    CopperBoard b = board(4, 3, 2, "s 1", "s 1", "s 1");
                    b.pin(0, 3, 1, 1);
                    b.pin(0, 0, 1, 0);
                    b.hole(0, 3, 1, 0);
                    b.pin(o, 1, 0, 0);
                    b.pin(o, 1, 2, 0);
                    b.lay(o);
                    return b;
                }, "a hole at its first pin, net " + o + " across", b -> b.why(0) * 16 + b.bars(0), 16 << o);
            }
            refused(() -> {
                CopperBoard b = board(3, 3, 2, "s 1", "s 1");
                pins(b, 0, 0, 0, 2, 0);
                b.lay(0);
                b.wire(1, 1, 0, 1, 2, 0);
                return b;
            }, "a wire across", b -> b.why(0));
        });
        test(39, "WHY a NET has VIAS: the fewest other NETS without whose TRACES it could be laid without VIAS "
                + "(of several as BARS)", () -> {
            due("0, 3 or 1, 2", inRows(0, 2, 2, 0).why(4), 9);
            due("0, 2 or 1, 3", inRows(2, 0, 2, 0).why(4), 5);
            due("0, 1 or 2", inRows(0, 0, 2).why(4), 4);
            due("none", inRows(0, 0).why(4), 0);
            due("0, 1 or 0, 2", halves(2, 0).why(3), 3);
            CopperBoard b = inRows(0, 2, 2, 0);
            b.rip(0);
            due("net 3", b.why(4), 8);
            b.rip(3);
            due("none", b.why(4), 0);
        });
    }
}
