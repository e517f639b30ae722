import java.util.function.Supplier;

/** Boundary cases of promises 41 to 43, the constants, and that what only asks changes nothing. */
final class BoundsRest extends Bounds {
    static void all() {
        sheets();
        splits();
        panelRefused();
        unwire();
        count();
        constants();
    }

    private static void sheet(int wide, int deep, int between, String want) {
        CopperBoard b = new CopperBoard(4, 3, 1);
        same("panel(" + wide + ", " + deep + ", " + between + ", ..)", b.panel(wide, deep, between, 0) + " "
                + b.panel(wide, deep, between, 1) + " " + b.panel(wide, deep, between, 2) + " "
                + b.panel(wide, deep, between, 3), want);
    }

    // ---- promise 41

    private static void sheets() {
        test(41, "a sheet so wide and deep (1 .. 200 CELLS each) holds boards upright or all turned by a quarter", () -> {
            sheet(1, 1, 0, "0 0 0 0");
            sheet(1, 200, 0, "0 0 0 0");
            sheet(200, 1, 9, "0 0 0 0");
            sheet(4, 3, 0, "1 0 1 1");
            sheet(3, 3, 0, "0 0 0 0");
            sheet(4, 2, 0, "0 0 0 0");
            sheet(3, 4, 0, "1 1 1 0");
            sheet(4, 4, 0, "1 0 1 0");
            sheet(200, 200, 0, "3300 0 " + split(200, 200, 0));
            sheet(199, 200, 0, "3300 1 " + split(199, 200, 0));
            sheet(200, 3, 0, "50 0 50 50");
            sheet(3, 200, 0, "50 1 50 0");
        });
        test(41, "so many CELLS (0 .. 9) between each two: as many as can be", () -> {
            sheet(8, 6, 0, "4 0 4 2");
            sheet(9, 7, 1, "4 0 4 2");
            sheet(8, 7, 1, "2 0 3 1");
            sheet(9, 6, 1, "2 0 " + split(9, 6, 1));
            sheet(17, 15, 9, "4 0 4 2");
            sheet(16, 15, 9, "2 0 " + split(16, 15, 9));
            sheet(17, 14, 9, "2 0 " + split(17, 14, 9));
            sheet(4, 3, 9, "1 0 1 1");
        });
        test(41, "turned only if these are more", () -> {
            sheet(12, 12, 0, "12 0 12 0");
            sheet(7, 4, 0, "2 1 2 0");
            sheet(8, 3, 0, "2 0 2 2");
            sheet(3, 8, 0, "2 1 2 0");
            CopperBoard square = new CopperBoard(5, 5, 1);
            due("alike", square.panel(10, 10, 0, 1), 0);
            due("how many", square.panel(10, 10, 0, 0), 4);
        });
    }

    /** SPLIT found by laying one board behind the other. */
    private static String split(int wide, int deep, int between) {
        int most = -1;
        int columns = 0;
        for (int k = 0; k == 0 || k * 4 + (k - 1) * between <= wide; k++) {
            int boards = k * row(deep, 3, between) + row(wide - k * (4 + between), 3, between) * row(deep, 4, between);
            if (boards > most) {
                most = boards;
                columns = k;
            }
        }
        return most + " " + columns;
    }

    private static int row(int room, int size, int between) {
        int many = 0;
        for (int at = 0; at + size <= room; at += size + between) {
            many++;
        }
        return many;
    }

    private static void splits() {
        test(41, "SPLIT: boards upright from the left and, to the right of some columns of these, turned ones, "
                + "rows of each by themselves: the most, and by how many columns upright (of several the fewest)", () -> {
            // Upright two columns of three, to the right a turned column of two: 8.
            sheet(11, 9, 0, "6 0 8 2");
            // One column upright and two turned make 6, three turned make 6, too.
            sheet(12, 9, 1, "6 1 6 0");
            for (int wide = 1; wide <= 40; wide += 3) {
                for (int deep = 1; deep <= 24; deep++) {
                    for (int between = 0; between <= 9; between += 3) {
                        sheet(wide, deep, between, turnedOrNot(wide, deep, between) + " " + split(wide, deep, between));
                    }
                }
            }
        });
    }

    private static String turnedOrNot(int wide, int deep, int between) {
        int upright = row(wide, 4, between) * row(deep, 3, between);
        int turned = row(wide, 3, between) * row(deep, 4, between);
        return Math.max(upright, turned) + " " + (turned > upright ? 1 : 0);
    }

    private static void panelRefused() {
        test(41, "PANEL: 0 how many, 1 whether turned (1, 0); SPLIT: 2 the most, 3 columns upright. NONE: out of bounds.", () -> {
            int[][] bad = {{0, 9, 0, 0}, {201, 9, 0, 0}, {9, 0, 0, 1}, {9, 201, 0, 1}, {-1, 9, 0, 2}, {9, -1, 0, 3}, {9, 9, -1, 0},
                {9, 9, 10, 0}, {9, 9, 0, -1}, {9, 9, 0, 4}, {MIN, 9, 0, 0}, {MAX, 9, 0, 0}, {9, MIN, 0, 0}, {9, MAX, 0, 0},
                {9, 9, MIN, 2}, {9, 9, MAX, 2}, {9, 9, 0, MIN}, {9, 9, 0, MAX}};
            for (int[] p : bad) {
                refused(Bounds::rich, "panel(" + p[0] + ", " + p[1] + ", " + p[2] + ", " + p[3] + ")",
                        b -> b.panel(p[0], p[1], p[2], p[3]));
            }
            quiet(Bounds::rich, "panel(200, 200, 9, 0)", b -> b.panel(200, 200, 9, 0), 16 * 17);
        });
    }

    // ---- promises 42 and 43

    private static void unwire() {
        test(42, "All WIRES of a NET go.", () -> {
            CopperBoard b = board(4, 3, 2, "s 1", "s 1");
            pins(b, 0, 0, 0, 3, 0);
            b.wire(0, 0, 1, 3, 1, 0);
            b.wire(0, 0, 0, 0, 2, 0);
            b.hole(0, 2, 2, 0);
            b.wire(1, 0, 2, 3, 2, 1);
            b.wire(0, 0, 2, 3, 2, 1);
            b.lay(0);
            due("unwire", b.unwire(0), true);
            same("pins and traces stay", picture(b, 0), "1..1/...1/....");
            same("wires of others stay", picture(b, 1), "..../..../2222");
            due("delay", b.delay(0), 1);
            due("delay of the other one", b.delay(1), 3);
            CopperBoard c = board(2, 2, 2, "s 1");
            c.hole(0, 0, 0, 0);
            due("a hole alone", c.unwire(0), true);
            due("cells", c.about(0, 2), 0);
            due("vias", c.wander(1, 1, 1), 0);
        });
        test(42, "False: no such NET, it has none.", () -> {
            for (int net : new int[] {0, 3, 4, 8, -1, MIN, MAX}) {
                refusedFalse(Bounds::rich, "unwire(" + net + ")", b -> b.unwire(net));
            }
            Supplier<CopperBoard> once = () -> {
                CopperBoard b = rich();
                b.unwire(1);
                return b;
            };
            refusedFalse(once, "unwire(1) again", b -> b.unwire(1));
        });
    }

    private static void count() {
        test(43, "0 CLASSES, 1 NETS, 2 bytes of the TAPE, 3 wide, 4 deep, 5 LAYERS.", () -> {
            CopperBoard b = new CopperBoard(5, 6, 3);
            int[] fresh = {0, 0, 0, 5, 6, 3};
            for (int what = 0; what < 6; what++) {
                due("count(" + what + ") of a new one", b.count(what), fresh[what]);
            }
            CopperBoard f = full();
            int[] most = {6, 8, 3, 4, 5, 2};
            for (int what = 0; what < 6; what++) {
                due("count(" + what + ") of a full one", f.count(what), most[what]);
            }
            feed(f, " ".repeat(77));
            due("bytes", f.count(2), 80);
        });
        test(43, "NONE for others.", () -> {
            for (int what : new int[] {-1, 6, 7, MIN, MAX}) {
                refused(Bounds::rich, "count(" + what + ")", b -> b.count(what));
            }
        });
    }

    private static void constants() {
        test(43, "What is refused answers as told and changes nothing.", () -> {
            due("NONE", CopperBoard.NONE, -1);
            due("HIDDEN", CopperBoard.HIDDEN, -1000);
            Supplier<CopperBoard> made = Bounds::rich;
            for (int part = 0; part < View.PARTS; part++) {
                same("two boards made alike, part " + part, View.of(made.get(), part), View.of(made.get(), part));
            }
        });
    }
}
