import java.util.function.Supplier;

/** Boundary cases of promises 19, 38 and 40: pressing, both ways beside one another, steady boards. */
final class BoundsPressing extends Bounds {
    private static final int[][] OUT = {{0, 1}, {21, 1}, {1, 0}, {1, 21}, {-1, 1}, {1, -1}, {MIN, 1}, {MAX, 1}, {1, MIN},
        {1, MAX}, {0, 0}, {21, 21}};

    static void all() {
        turns();
        turnByTurn();
        bars();
        heats();
        cooling();
        endings();
        beside();
        steady();
    }

    /**
     * Net 1 must cross at 1, 1; net 0 goes straight through it, too, as long as that costs no more than two vias:
     * 2 and the pressure and a heat of one less than the turn against 2 and twice the via.
     */
    private static CopperBoard crossing(int via) {
        CopperBoard b = board(3, 3, 2, "v " + via, "l 0");
        pins(b, 0, 0, 1, 2, 1);
        pins(b, 1, 1, 0, 1, 2);
        return b;
    }

    /** Net 0 lies straight in row 1 at first; net 1 must come down to it or beyond. */
    private static CopperBoard dipping() {
        CopperBoard b = board(5, 4, 1, "s 1", "s 1");
        pins(b, 0, 0, 1, 4, 1);
        pins(b, 1, 1, 0, 3, 0);
        keep(b, 2, 0, 0);
        return b;
    }

    // ---- promise 19

    private static void turns() {
        test(19, "PRESS: behind how many TURNS (1 .. 20) it ended well.", () -> {
            due("no nets", new CopperBoard(2, 2, 1).press(1, 1), 1);
            due("no pins", board(2, 2, 1, "s 1", "s 1").press(20, 20), 1);
            due("the first turn of one", crossing(0).press(1, 1), -1);
            due("the second turn", crossing(0).press(2, 1), 2);
            due("the twentieth turn", crossing(10).press(20, 2), 20);
            due("nineteen are too few", crossing(10).press(19, 2), -1);
            due("the nineteenth turn", crossing(10).press(20, 3), 19);
            due("the nineteenth of nineteen", crossing(10).press(19, 3), 19);
            due("it would be the twenty-first", crossing(10).press(20, 1), -1);
            CopperBoard b = crossing(10);
            b.press(20, 2);
            same("net 1 alone crosses", picture(b, 0), ".2./121/.2.");
            same("net 0 goes below", picture(b, 1), ".../111/...");
        });
        test(19, "NONE: not, out of bounds (PRESSURE 1 .. 20).", () -> {
            due("pressure 1", crossing(9).press(20, 1), 19);
            due("pressure 20", crossing(10).press(20, 20), 2);
            due("pressure 20, two turns", crossing(10).press(2, 20), 2);
            due("pressure 19", crossing(10).press(20, 19), 3);
            for (int[] o : OUT) {
                refused(Bounds::rich, "press(" + o[0] + ", " + o[1] + ")", b -> b.press(o[0], o[1]));
                refused(() -> crossing(0), "press(" + o[0] + ", " + o[1] + ")", b -> b.press(o[0], o[1]));
            }
            refused(() -> crossing(10), "press(20, 1)", b -> b.press(20, 1));
            refused(() -> new CopperBoard(2, 2, 1), "press(0, 1) without nets", b -> b.press(0, 1));
        });
    }

    private static void turnByTurn() {
        test(19, "PRESS: all TRACES go", () -> {
            CopperBoard b = dipping();
            keep(b, 2, 1, 0);
            b.lay(0);
            CopperBoard c = dipping();
            keep(c, 2, 1, 0);
            due("laid before", b.press(9, 1), c.press(9, 1));
            same("pictures", picture(b, 0), picture(c, 0));
            CopperBoard e = dipping();
            e.lay(1);
            // If net 1's trace stayed, net 0 would give way in the first turn.
            due("laid before", e.press(9, 1), 2);
            CopperBoard d = board(3, 3, 1, "s 1", "s 1");
            pins(d, 0, 0, 0, 2, 0);
            d.lay(0);
            due("joined by hand", d.wire(0, 0, 0, 2, 0, 0), true);
            due("press", d.press(1, 1), 1);
            due("no traces then", d.rip(0), false);
        });
        test(19, "in each TURN each NET by its number is laid anew", () -> {
            CopperBoard b = dipping();
            b.rank(0, 99);
            // If net 1 were first, net 0 would give way in the first turn.
            due("ranks don't count", b.press(9, 1), 2);
            same("laid", picture(b, 0), ".2.2./12221/11111/.....");
            CopperBoard c = dipping();
            due("one turn", c.press(1, 1), -1);
            due("two turns", c.press(2, 1), 2);
        });
        test(19, "each move costs more by the CELL that it comes to: PRESSURE for each other NET with a TRACE there", () -> {
            // Turn 1: straight through row 1 is 4 and three times the pressure, by row 2 it is 6 and twice that.
            CopperBoard b = dipping();
            due("pressure 3", b.press(9, 3), 2);
            // Then net 0 goes by row 3, as row 2 has net 1's trace, and net 1 goes straight again.
            same("laid", picture(b, 0), ".2.2./12221/1...1/11111");
            CopperBoard c = dipping();
            due("pressure 2", c.press(9, 2), 2);
            same("laid", picture(c, 0), ".2.2./12221/11111/.....");
        });
        test(19, "at most CLEAR away (as FREE)", () -> {
            due("no clear", apart("s 1", "s 1").press(9, 1), 1);
            due("of the first", apart("c 1", "s 1").press(9, 1), 2);
            due("of the second", apart("s 1", "c 1").press(9, 1), 2);
            due("of both", apart("c 1", "c 1").press(9, 1), 2);
            CopperBoard b = apart("s 1", "c 1");
            b.press(9, 1);
            same("one row between", picture(b, 0), "1111111/1.....1/..222../..2.2../..2.2..");
            CopperBoard c = apart("s 1", "s 1");
            c.press(9, 1);
            same("side by side", picture(c, 0), "......./1111111/..222../..2.2../..2.2..");
            refused(() -> apart("s 1", "c 2"), "two clear: pins bar", d -> d.press(20, 1));
        });
    }

    /** Net 1 has to go up to row 2, one away from net 0's straight row. */
    private static CopperBoard apart(String first, String second) {
        CopperBoard b = board(7, 5, 1, first, second);
        pins(b, 0, 0, 1, 6, 1);
        pins(b, 1, 2, 4, 4, 4);
        keep(b, 3, 3, 0);
        keep(b, 3, 4, 0);
        return b;
    }

    private static void bars() {
        test(19, "where TRACES of others don't bar (PINS, WIRES do)", () -> {
            Supplier<CopperBoard> pinned = () -> {
                CopperBoard b = board(3, 3, 1, "s 1", "s 1");
                pins(b, 0, 0, 0, 2, 0);
                b.lay(0);
                pins(b, 1, 1, 0, 1, 1, 1, 2);
                return b;
            };
            refused(pinned, "pins bar", b -> b.press(20, 20));
            Supplier<CopperBoard> wired = () -> {
                CopperBoard b = board(3, 3, 1, "s 1", "s 1");
                pins(b, 0, 0, 0, 2, 0);
                b.lay(0);
                b.wire(1, 1, 0, 1, 2, 0);
                return b;
            };
            refused(wired, "wires bar", b -> b.press(20, 20));
            CopperBoard b = board(3, 3, 1, "s 1", "s 1");
            pins(b, 0, 0, 0, 2, 0);
            b.lay(0);
            pins(b, 1, 1, 0, 1, 1);
            due("round the pins", b.press(20, 20), 1);
            same("laid", picture(b, 0), "121/121/111");
            Supplier<CopperBoard> clear = () -> {
                CopperBoard c = board(4, 3, 1, "c 1", "s 1");
                pins(c, 0, 0, 0, 3, 0);
                c.pin(1, 1, 1, 0);
                return c;
            };
            refused(clear, "a pin at most clear away bars", c -> c.press(20, 20));
        });
    }

    private static void heats() {
        test(19, "at the end of a TURN the HEAT of each CELL (0 at first) with a TRACE that has one of another NET "
                + "at most CLEAR away is 1 more", () -> {
            for (int via = 0; via <= 10; via++) {
                for (int pressure = 1; pressure <= 20; pressure++) {
                    int first = Math.max(2, 2 * via + 2 - pressure);
                    due("via " + via + ", pressure " + pressure, crossing(via).press(20, pressure), first <= 20 ? first : -1);
                }
            }
            for (int via = 5; via <= 50; via += 5) {
                for (int pressure = 1; pressure <= 12; pressure++) {
                    // Five cells one clear away against two vias.
                    int turn = 2;
                    while (turn <= 20 && 5 * (pressure + turn - 1) <= 2 * via) {
                        turn++;
                    }
                    due("net 0 gives way, via " + via + ", pressure " + pressure,
                            beneath(via, true).press(20, pressure), turn <= 20 ? turn : -1);
                    turn = 5 * pressure > 2 * via ? 1 : turn;
                    due("net 1 gives way, via " + via + ", pressure " + pressure,
                            beneath(via, false).press(20, pressure), turn <= 20 ? turn : -1);
                }
            }
            for (int via = 3; via <= 60; via++) {
                // Nine cells, that of the corner among them.
                int turn = 2;
                while (turn <= 20 && 9 * turn <= 2 * via) {
                    turn++;
                }
                due("round the corner, via " + via, corner(via).press(20, 1), turn <= 20 ? turn : -1);
            }
            CopperBoard b = crossing(5);
            due("heat", b.press(20, 4), 8);
            due("0 at first again", b.press(20, 4), 8);
            due("in a third call", b.press(8, 4), 8);
            due("one less is too few", b.press(7, 4), -1);
        });
    }

    /** One net goes straight along row 1 or beneath it; the other one has to come up to row 2, one clear. */
    private static CopperBoard beneath(int via, boolean first) {
        CopperBoard b = first ? board(7, 5, 2, "v " + via, "l 0,c 1") : board(7, 5, 2, "l 0,c 1", "v " + via);
        pins(b, first ? 0 : 1, 0, 1, 6, 1);
        pins(b, first ? 1 : 0, 2, 4, 4, 4);
        b.keep(0, 0, 6, 0, 1);
        b.keep(0, 2, 1, 2, 1);
        b.keep(5, 2, 6, 2, 1);
        b.keep(3, 3, 3, 4, 1);
        return b;
    }

    /** Net 0 goes up the first column and along the first row or beneath; net 1 goes the same way one cell further in. */
    private static CopperBoard corner(int via) {
        CopperBoard b = board(6, 6, 2, "v " + via, "l 0,c 1");
        pins(b, 0, 5, 0, 0, 5);
        pins(b, 1, 2, 3, 3, 2);
        int[] kept = {2, 2, 3, 3, 2, 4, 4, 2, 2, 5};
        for (int i = 0; i < kept.length; i += 2) {
            keep(b, kept[i], kept[i + 1], 0);
        }
        return b;
    }

    private static void cooling() {
        test(19, "at the end of a TURN the HEAT of each CELL (0 at first) with a TRACE that has one of another NET "
                + "at most CLEAR away is 1 more", () -> {
            CopperBoard b = board(7, 3, 2, "v 3", "v 5", "v 10", "l 0");
            pins(b, 0, 0, 1, 2, 1);
            pins(b, 1, 1, 0, 1, 2);
            pins(b, 2, 4, 1, 6, 1);
            pins(b, 3, 5, 0, 5, 2);
            b.keep(3, 0, 3, 2, 3);
            due("the other crossing takes long", b.press(20, 2), 20);
            due("net 0 went below in turn 6", b.about(0, 1), 2);
            // The heat of the cell stays at 5 from then on, else it would be more than two vias of net 1.
            due("net 1 stays", b.about(1, 1), 0);
            due("net 2 went below in turn 20", b.about(2, 1), 2);
        });
    }

    private static void endings() {
        test(19, "It ends well behind a TURN without such CELLS; else, if a NET can't be laid or behind the last TURN, "
                + "all is as it was.", () -> {
            Supplier<CopperBoard> laid = () -> {
                CopperBoard b = crossing(10);
                b.lay(1);
                return b;
            };
            refused(laid, "behind the last turn", b -> b.press(20, 1));
            refused(laid, "behind the only turn", b -> b.press(1, 20));
            Supplier<CopperBoard> walled = () -> {
                CopperBoard b = board(4, 4, 1, "s 1", "s 1", "s 1");
                pins(b, 0, 0, 0, 3, 0);
                pins(b, 1, 0, 1, 0, 3);
                pins(b, 2, 3, 3, 2, 2);
                b.lay(0);
                b.lay(2);
                keep(b, 0, 2, 0);
                keep(b, 1, 3, 0);
                return b;
            };
            refused(walled, "net 1 can't be laid", b -> b.press(20, 20));
            Supplier<CopperBoard> near = () -> {
                CopperBoard b = board(5, 5, 2, "c 1", "s 1");
                pins(b, 0, 0, 0, 4, 0);
                pins(b, 1, 0, 1, 4, 4);
                b.lay(1);
                return b;
            };
            due("both can be laid", near.get().order(), 0);
            refused(near, "pins too near to one another never end well", b -> b.press(20, 20));
        });
    }

    // ---- promise 38

    private static void beside() {
        test(38, "how many NETS with PINS ORDER laid, its LENGTH and VIAS of all NETS together", () -> {
            quiet(() -> crossing(10), "beside(1, 1, 0)", b -> b.beside(1, 1, 0), 1);
            quiet(() -> crossing(10), "beside(1, 1, 1)", b -> b.beside(1, 1, 1), 2);
            quiet(() -> crossing(10), "beside(20, 20, 2)", b -> b.beside(20, 20, 2), 0);
            Supplier<CopperBoard> laid = () -> {
                CopperBoard b = crossing(10);
                b.rank(0, 1);
                b.net(0);
                b.net(0);
                b.pin(3, 2, 2, 1);
                b.lay(1);
                b.lay(0);
                b.wire(3, 1, 2, 2, 2, 1);
                return b;
            };
            quiet(laid, "one pin is laid, no pins are not told", b -> b.beside(1, 1, 0), 3);
            quiet(laid, "wires have no length", b -> b.beside(1, 1, 1), 4);
            quiet(laid, "vias", b -> b.beside(1, 1, 2), 2);
            quiet(() -> new CopperBoard(2, 2, 1), "no nets", b -> b.beside(1, 1, 0), 0);
            quiet(() -> board(2, 2, 1, "s 1"), "no pins", b -> b.beside(20, 20, 0), 0);
        });
        test(38, "BESIDE: of ORDER 0 how many, 1 LENGTH, 2 VIAS", () -> {
            String[] texts = {"s 1", "s 1", "s 1", "s 1", "s 1", "s 1", "s 1", "s 1"};
            CopperBoard b = board(9, 8, 1, texts);
            for (int net = 0; net < 8; net++) {
                pins(b, net, 0, net, 8, net);
            }
            due("all eight", b.beside(1, 1, 0), 8);
            due("length", b.beside(1, 1, 1), 64);
            due("vias", b.beside(1, 1, 2), 0);
            keep(b, 4, 7, 0);
            due("without the last", b.beside(1, 1, 0), 7);
            due("its length does not count", b.beside(1, 1, 1), 56);
            due("none is laid", b.about(0, 0), 0);
        });
        test(38, "whether PRESS ended well, its LENGTH and VIAS then", () -> {
            quiet(() -> crossing(10), "beside(20, 2, 3)", b -> b.beside(20, 2, 3), 1);
            quiet(() -> crossing(10), "beside(20, 2, 4)", b -> b.beside(20, 2, 4), 4);
            quiet(() -> crossing(10), "beside(20, 2, 5)", b -> b.beside(20, 2, 5), 2);
            quiet(() -> board(2, 2, 1, "s 1"), "no pins", b -> b.beside(1, 1, 3), 1);
            quiet(() -> board(2, 2, 1, "s 1"), "no pins", b -> b.beside(1, 1, 4), 0);
        });
        test(38, "of PRESS 3 whether it ended well (1, 0), 4 LENGTH, 5 VIAS (NONE, if not)", () -> {
            quiet(() -> crossing(10), "beside(19, 2, 3)", b -> b.beside(19, 2, 3), 0);
            refused(() -> crossing(10), "beside(19, 2, 4)", b -> b.beside(19, 2, 4));
            refused(() -> crossing(10), "beside(19, 2, 5)", b -> b.beside(19, 2, 5));
            quiet(() -> crossing(10), "order's figures stay", b -> b.beside(19, 2, 1), 2);
        });
        test(38, "BESIDE: from no TRACES on ORDER, then again from none PRESS are tried, and nothing changes", () -> {
            Supplier<CopperBoard> laid = () -> {
                CopperBoard b = crossing(10);
                b.lay(1);
                return b;
            };
            for (int what = 0; what < 6; what++) {
                int w = what;
                quiet(laid, "beside(20, 2, " + w + ")", b -> b.beside(20, 2, w), crossing(10).beside(20, 2, w));
            }
        });
        test(38, "NONE: no such ones (as press()).", () -> {
            for (int[] o : OUT) {
                for (int what = 0; what < 6; what += 3) {
                    int w = what;
                    refused(Bounds::rich, "beside(" + o[0] + ", " + o[1] + ", " + w + ")", b -> b.beside(o[0], o[1], w));
                }
            }
            for (int what : new int[] {-1, 6, MIN, MAX}) {
                refused(Bounds::rich, "beside(1, 1, " + what + ")", b -> b.beside(1, 1, what));
                refused(() -> crossing(0), "beside(20, 20, " + what + ")", b -> b.beside(20, 20, what));
            }
        });
    }

    // ---- promise 40

    private static void steady() {
        test(40, "STEADY: whether ORDER, tried so, would lay each NET as it lies now.", () -> {
            due("nothing told", new CopperBoard(2, 2, 1).steady(), true);
            due("no pins", board(2, 2, 1, "s 1").steady(), true);
            quiet(() -> crossing(10), "not laid yet", b -> b.steady() ? 1 : 0, 0);
            Supplier<CopperBoard> ordered = () -> {
                CopperBoard b = crossing(10);
                b.order();
                return b;
            };
            quiet(ordered, "behind order()", b -> b.steady() ? 1 : 0, 1);
            Supplier<CopperBoard> other = () -> {
                CopperBoard b = ordered.get();
                b.rank(0, 1);
                return b;
            };
            quiet(other, "by other ranks", b -> b.steady() ? 1 : 0, 0);
            Supplier<CopperBoard> ripped = () -> {
                CopperBoard b = ordered.get();
                b.rip(0);
                return b;
            };
            quiet(ripped, "one is gone", b -> b.steady() ? 1 : 0, 0);
            Supplier<CopperBoard> again = () -> {
                CopperBoard b = ripped.get();
                b.lay(0);
                return b;
            };
            quiet(again, "laid again", b -> b.steady() ? 1 : 0, 1);
            Supplier<CopperBoard> bent = () -> {
                CopperBoard b = board(3, 3, 1, "s 1");
                pins(b, 0, 0, 0, 2, 0);
                b.lay(0);
                b.stretch(0, 4);
                return b;
            };
            quiet(bent, "stretched", b -> b.steady() ? 1 : 0, 0);
        });
        test(40, "would lay each NET as it lies now", () -> {
            // All cells are pins, yet the moves between them are others.
            CopperBoard b = board(2, 2, 1, "s 1");
            pins(b, 0, 0, 0, 1, 1, 0, 1, 1, 0);
            b.wire(0, 0, 0, 0, 1, 0);
            due("beside a wire", b.lay(0), 2);
            b.unwire(0);
            due("copper alike, moves not", b.steady(), false);
            b.order();
            due("behind order()", b.steady(), true);
        });
    }
}
