/** All that a board answers, told as a text; in parts, so that no board is asked more than 512 calls. */
final class View {
    static final int PARTS = 9;

    private final CopperBoard board;
    private final StringBuilder all = new StringBuilder();
    private final int wide;
    private final int deep;
    private final int layers;
    private final int nets;

    private View(CopperBoard board) {
        this.board = board;
        wide = board.count(3);
        deep = board.count(4);
        layers = board.count(5);
        nets = board.count(1);
    }

    static String of(CopperBoard board, int part) {
        View view = new View(board);
        switch (part) {
            case 0 -> view.tape();
            case 1 -> view.cells();
            case 2 -> view.frees(0, 4);
            case 3 -> view.frees(4, 8);
            case 4 -> view.figures();
            case 5 -> view.pairs();
            case 6 -> view.checks();
            case 7 -> view.nextDeeds();
            default -> view.nextTold();
        }
        return view.all.toString();
    }

    private void say(String call, long answer) {
        all.append(call).append(' ').append(answer).append('\n');
    }

    private void say(String call, boolean answer) {
        say(call, answer ? 1 : 0);
    }

    private void tape() {
        for (int what = 0; what < 6; what++) {
            say("count " + what, board.count(what));
        }
        for (int n = board.count(2); n >= 0; n--) {
            say("end " + n, board.end(n));
            say("fault", board.fault());
        }
        for (int sort = 0; sort < board.count(0); sort++) {
            for (int what = 0; what < 5; what++) {
                say("told " + sort + " " + what, Bounds.told(board, sort, what));
            }
        }
    }

    private void cells() {
        for (int layer = 0; layer < layers; layer++) {
            all.append("layer ").append(layer).append(' ').append(Bounds.picture(board, layer)).append('\n');
        }
    }

    private void frees(int from, int to) {
        for (int net = from; net < nets && net < to; net++) {
            for (int i = 0; i < wide * deep * layers && i < 100; i++) {
                int x = i % wide;
                int y = i / wide % deep;
                int layer = i / wide / deep;
                say("free " + net + " " + x + " " + y + " " + layer, board.free(net, x, y, layer));
            }
        }
    }

    private void figures() {
        for (int net = 0; net < nets; net++) {
            for (int what = 0; what < 5; what++) {
                say("about " + net + " " + what, board.about(net, what));
            }
            say("cost " + net, board.cost(net, true));
            say("cost without vias " + net, board.cost(net, false));
            for (int what = 0; what < 4; what++) {
                say("cut " + net + " " + what, board.cut(net, what));
            }
            say("bars " + net, board.bars(net));
            say("why " + net, board.why(net));
            say("span " + net, board.span(net));
            say("delay " + net, board.delay(net));
            for (int pin = 0; pin < board.about(net, 3); pin++) {
                say("spokes " + net + " " + pin, board.spokes(net, pin));
            }
            for (int layer = 0; layer < layers; layer++) {
                for (int what = 0; what < 4; what++) {
                    say("plane " + net + " " + layer + " " + what, board.plane(net, layer, what));
                }
            }
            say("together " + net, board.together(1 << net));
        }
    }

    private void pairs() {
        for (int a = 0; a < nets; a++) {
            for (int b = 0; b < nets; b++) {
                for (int what = 0; what < 4 && a != b; what++) {
                    say("pair " + a + " " + b + " " + what, board.pair(a, b, what));
                }
                for (int layer = 0; layer < layers && a != b; layer++) {
                    say("back " + a + " " + b + " " + layer, board.back(a, b, layer));
                }
            }
        }
    }

    private void checks() {
        for (int x = -3; x <= 3; x++) {
            for (int y = -3; y <= 3; y++) {
                say("wander " + x + " " + y + " 0", board.wander(x, y, 0));
                say("wander " + x + " " + y + " 1", board.wander(x, y, 1));
            }
        }
        for (int what = 0; what < 3; what++) {
            say("worst " + what, board.worst(3, what));
        }
        say("shorts", board.netlist(0));
        say("opens", board.netlist(1));
        for (int layer = 0; layer < layers; layer++) {
            say("test " + layer, board.test(layer));
        }
        for (int by = 0; by < 6; by++) {
            say("equal " + by, board.equal((1 << nets) - 1, by));
        }
        for (int what = 0; what < 6; what++) {
            say("beside " + what, board.beside(5, 2, what));
        }
        say("steady", board.steady());
    }

    /** Hidden state shows in what the next calls do. */
    private void nextDeeds() {
        for (int net = 0; net < nets; net++) {
            say("stretch " + net, board.stretch(net, 9));
            say("rip " + net, board.rip(net));
            say("lay " + net, board.lay(net));
        }
        cells();
        say("order", board.order());
        cells();
        say("press", board.press(9, 2));
        cells();
        for (int net = 0; net < nets; net++) {
            say("late " + net, board.late(net, 0, wide - 1, deep - 1, layers - 1));
            say("unwire " + net, board.unwire(net));
            say("delay " + net, board.delay(net));
        }
        cells();
    }

    private void nextTold() {
        int made = board.sort();
        say("sort", made);
        for (int what = 0; what < 5; what++) {
            say("told " + made + " " + what, Bounds.told(board, made, what));
        }
        say("net", board.net(0));
        for (int net = 0; net <= nets; net++) {
            for (int i = 0; i < wide * deep * layers && i < 30; i++) {
                say("pin " + net + " " + i, board.pin(net, i % wide, i / wide % deep, i / wide / deep));
            }
        }
        cells();
    }
}
