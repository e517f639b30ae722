import java.util.NoSuchElementException;
import java.util.Random;

/** Runs of calls, picked by a fixed seed, on the class and on the plain model side by side. */
public final class RandomRunsTest {
    private static int wrong = 0;
    private final Random random;
    private final int run;
    private CopperBoard board;
    private Model model;
    private StringBuilder said = new StringBuilder();
    private boolean failed = false;
    private boolean tight = false;
    private int wide;
    private int deep;
    private int layers;

    private RandomRunsTest(int run) {
        this.run = run;
        random = new Random(run * 7919L + 17);
    }

    public static void main(String[] args) {
        int first = args.length > 0 ? Integer.parseInt(args[0]) : 0;
        int runs = args.length > 1 ? Integer.parseInt(args[1]) : 1500;
        for (int run = first; run < first + runs && wrong < 5; run++) {
            new RandomRunsTest(run).go();
        }
        System.out.println(wrong == 0 ? "random runs are as due" : wrong + " random runs are not as due");
        if (wrong != 0) {
            System.exit(1);
        }
    }

    private int below(int n) {
        return random.nextInt(n);
    }

    /** Mostly within 0 .. n - 1, now and then just outside or far away. */
    private int about(int n) {
        int kind = below(60);
        if (kind == 0) {
            return new int[] {Integer.MIN_VALUE, Integer.MAX_VALUE, -1, n, n + 1, 1 << 30, -1000}[below(7)];
        }
        return kind == 1 ? below(n + 4) - 2 : below(Math.max(1, n));
    }

    private void due(String call, long got, long want) {
        said.append(call).append(" -> ").append(want).append('\n');
        if (got != want && !failed) {
            failed = true;
            wrong++;
            System.out.println("run " + run + " on " + wide + "x" + deep + "x" + layers + ":\n" + said);
            System.out.println("but the last answered " + got);
        }
    }

    private void due(String call, boolean got, boolean want) {
        due(call, got ? 1 : 0, want ? 1 : 0);
    }

    private void go() {
        int shape = run % 4;
        wide = shape == 0 ? 2 + below(3) : 2 + below(4);
        deep = shape == 0 ? 2 + below(2) : 2 + below(4);
        layers = 1 + below(shape == 0 ? 2 : 4);
        tight = run % 5 >= 2;
        if (tight) {
            wide = 3 + below(4);
            deep = 3 + below(4);
            layers = 1 + below(2);
        }
        if (run % 97 == 0) {
            wide = below(20) - 5;
            deep = below(20) - 5;
            layers = below(9) - 3;
        }
        board = new CopperBoard(wide, deep, layers);
        model = new Model(wide, deep, layers);
        for (int what = -1; what < 8; what++) {
            due("count(" + what + ")", board.count(what), model.count(what));
        }
        int sorts = 1 + below(3);
        for (int i = 0; i < sorts; i++) {
            feedText(niceText());
            due("sort()", board.sort(), model.sort());
        }
        int nets = tight ? 4 + below(5) : 1 + below(run % 3 == 0 ? 7 : 4);
        for (int i = 0; i < nets; i++) {
            int sort = below(sorts);
            due("net(" + sort + ")", board.net(sort), model.net(sort));
            int pins = below(8) == 0 ? below(5) : 2;
            pins = tight && below(5) != 0 ? 2 : pins;
            for (int p = 0; p < pins; p++) {
                addPin(i);
            }
        }
        int calls = 60;
        for (int i = 0; i < calls && !failed; i++) {
            call(tight ? tightKind() : below(100));
            compareCopper();
        }
    }

    /** On tight boards wires and keepouts would soon bar all: these come seldom, what searches comes often. */
    private int tightKind() {
        int kind = below(100);
        if (kind < 20 && below(12) != 0) {
            return 16;
        }
        return kind >= 80 && below(2) == 0 ? 62 + below(9) : kind;
    }

    private void compareCopper() {
        for (Model.Cell c : model.all) {
            int got = board.copper(c.x(), c.y(), c.layer());
            int want = model.copper(c.x(), c.y(), c.layer());
            if (got != want) {
                due("copper(" + c + ")", got, want);
            }
        }
    }

    private String niceText() {
        String text = "";
        if (below(2) == 0) {
            text += ",s " + (1 + below(4));
        }
        if (below(2) == 0) {
            text += ", v" + below(8);
        }
        if (below(2) == 0) {
            text += ",b " + below(5) + " ";
        }
        if (below(3) == 0) {
            text += ",c" + below(3);
        }
        if (below(4) == 0) {
            int first = below(model.layers);
            int second = below(model.layers);
            text += ",l" + first + (second == first ? "" : " " + second);
        }
        return text.isEmpty() ? "s1" : text.substring(1);
    }

    private String wildText() {
        String signs = "svbcl,,,   0123456789x";
        StringBuilder text = new StringBuilder(below(3) == 0 ? niceText() : "");
        int many = below(9);
        for (int i = 0; i < many; i++) {
            text.insert(below(text.length() + 1), signs.charAt(below(signs.length())));
        }
        return text.toString();
    }

    private void feedText(String text) {
        int[] words = new int[5];
        for (int i = 0; i < 20; i++) {
            int value = i < text.length() ? text.charAt(i) : 0;
            words[i / 4] |= value << (24 - 8 * (i % 4));
        }
        due("feed \"" + text + "\"", board.feed(words[0], words[1], words[2], words[3], words[4]),
                model.feed(words[0], words[1], words[2], words[3], words[4]));
    }

    private void addPin(int net) {
        int x = about(model.wide);
        int y = about(model.deep);
        int l = about(model.layers);
        due("pin(" + net + ", " + x + ", " + y + ", " + l + ")", board.pin(net, x, y, l), model.pin(net, x, y, l));
    }

    private int someNet() {
        return about(model.nets.size());
    }

    private void call(int kind) {
        if (kind < 20) {
            tell(kind);
        } else if (kind < 60) {
            layThings(kind - 20);
        } else {
            ask(kind - 60);
        }
    }

    private void tell(int kind) {
        int n = someNet();
        int x = about(model.wide);
        int y = about(model.deep);
        int x2 = about(model.wide);
        int y2 = about(model.deep);
        int l = about(model.layers);
        int v = below(5) == 0 ? about(100) : below(4);
        switch (kind) {
            case 0, 1 -> {
                due("end(0)", board.end(0), model.end(0));
                feedText(wildText());
                due("fault()", board.fault(), model.fault());
            }
            case 2 -> due("sort()", board.sort(), model.sort());
            case 3 -> due("net(" + v + ")", board.net(v), model.net(v));
            case 4, 5, 6 -> addPin(n);
            case 7 -> due("end(" + v + ")", board.end(v), model.end(v));
            case 8 -> {
                int bits = about(1 << model.layers);
                due("keep(" + x + ", " + y + ", " + x2 + ", " + y2 + ", " + bits + ")",
                        board.keep(x, y, x2, y2, bits), model.keep(x, y, x2, y2, bits));
            }
            case 9, 10, 11 -> {
                if (below(2) == 0) {
                    x2 = x;
                } else {
                    y2 = y;
                }
                due("wire(" + n + ", " + x + ", " + y + ", " + x2 + ", " + y2 + ", " + l + ")",
                        board.wire(n, x, y, x2, y2, l), model.wire(n, x, y, x2, y2, l));
            }
            case 12 -> due("wire(" + n + ", " + x + ", " + y + ", " + x2 + ", " + y2 + ", " + l + ")",
                    board.wire(n, x, y, x2, y2, l), model.wire(n, x, y, x2, y2, l));
            case 13, 14 -> due("hole(" + n + ", " + x + ", " + y + ", " + l + ")",
                    board.hole(n, x, y, l), model.hole(n, x, y, l));
            case 15 -> due("unwire(" + n + ")", board.unwire(n), model.unwire(n));
            case 16 -> due("rank(" + n + ", " + v + ")", board.rank(n, v), model.rank(n, v));
            case 17 -> due("slow(" + (l - 1) + ", " + v + ")", board.slow(l - 1, v), model.slow(l - 1, v));
            case 18 -> due("rip(" + n + ")", board.rip(n), model.rip(n));
            default -> askTold(about(3), about(5));
        }
    }

    private void askTold(int s, int what) {
        long got = -5;
        long want = -5;
        try {
            got = board.told(s, what);
        } catch (NoSuchElementException e) {
            got = -7;
        }
        try {
            want = model.told(s, what);
        } catch (NoSuchElementException e) {
            want = -7;
        }
        due("told(" + s + ", " + what + ")", got, want);
    }

    private void layThings(int kind) {
        int n = someNet();
        int x = about(model.wide);
        int y = about(model.deep);
        int l = about(model.layers);
        int turns = below(10) == 0 ? about(22) : 1 + below(8);
        int pressure = below(10) == 0 ? about(22) : 1 + below(6);
        if (kind < 12) {
            due("lay(" + n + ")", board.lay(n), model.lay(n));
        } else if (kind < 18) {
            due("cost(" + n + ", true)", board.cost(n, true), model.cost(n, true));
            due("cost(" + n + ", false)", board.cost(n, false), model.cost(n, false));
        } else if (kind < 24) {
            due("order()", board.order(), model.order());
        } else if (kind < 28) {
            due("press(" + turns + ", " + pressure + ")", board.press(turns, pressure), model.press(turns, pressure));
        } else if (kind < 34) {
            int length = below(4) == 0 ? about(201) : below(14);
            due("stretch(" + n + ", " + length + ")", board.stretch(n, length), model.stretch(n, length));
        } else {
            int p = about(3);
            due("late(" + n + ", " + p + ", " + x + ", " + y + ", " + l + ")",
                    board.late(n, p, x, y, l), model.late(n, p, x, y, l));
        }
    }

    private void ask(int kind) {
        int n = someNet();
        int m = someNet();
        int x = about(model.wide);
        int y = about(model.deep);
        int l = about(model.layers);
        int what = about(4);
        int bits = about(1 << model.nets.size());
        switch (kind) {
            case 0, 1 -> due("free(" + n + ", " + x + ", " + y + ", " + l + ")",
                    board.free(n, x, y, l), model.free(n, x, y, l));
            case 2, 3, 4 -> due("cut(" + n + ", " + what + ")", board.cut(n, what), model.cut(n, what));
            case 5, 6, 7 -> due("bars(" + n + ")", board.bars(n), model.bars(n));
            case 8, 9, 10 -> due("why(" + n + ")", board.why(n), model.why(n));
            case 11, 12 -> {
                if (model.all.size() <= 12 || Integer.bitCount(bits) < 2) {
                    due("together(" + bits + ")", board.together(bits), model.together(bits));
                }
            }
            case 13 -> due("about(" + n + ", " + what + ")", board.about(n, what), model.about(n, what));
            case 14, 15 -> due("span(" + n + ")", board.span(n), model.span(n));
            case 16 -> due("equal(" + bits + ", " + what + ")", board.equal(bits, what), model.equal(bits, what));
            case 17, 18, 19 -> due("plane(" + n + ", " + l + ", " + what + ")",
                    board.plane(n, l, what), model.plane(n, l, what));
            case 20 -> due("spokes(" + n + ", " + what + ")", board.spokes(n, what), model.spokes(n, what));
            case 21, 22 -> due("back(" + n + ", " + m + ", " + l + ")", board.back(n, m, l), model.back(n, m, l));
            case 23, 24 -> {
                int dx = about(7) - 3;
                int dy = about(7) - 3;
                int w = about(2);
                due("wander(" + dx + ", " + dy + ", " + w + ")", board.wander(dx, dy, w), model.wander(dx, dy, w));
            }
            case 25, 26 -> {
                int w = about(3);
                due("worst(" + what + ", " + w + ")", board.worst(what, w), model.worst(what, w));
            }
            case 27, 28 -> {
                int w = about(2);
                due("netlist(" + w + ")", board.netlist(w), model.netlist(w));
            }
            case 29 -> due("test(" + l + ")", board.test(l), model.test(l));
            case 30 -> due("delay(" + n + ")", board.delay(n), model.delay(n));
            case 31, 32, 33 -> due("pair(" + n + ", " + m + ", " + what + ")",
                    board.pair(n, m, what), model.pair(n, m, what));
            case 34, 35 -> {
                int w = about(6);
                int turns = 1 + about(8);
                int pressure = 1 + about(6);
                due("beside(" + turns + ", " + pressure + ", " + w + ")",
                        board.beside(turns, pressure, w), model.beside(turns, pressure, w));
            }
            case 36, 37 -> due("steady()", board.steady(), model.steady());
            case 38 -> {
                int sw = about(below(2) == 0 ? 30 : 202);
                int sd = about(below(2) == 0 ? 30 : 202);
                int b = about(10);
                due("panel(" + sw + ", " + sd + ", " + b + ", " + what + ")",
                        board.panel(sw, sd, b, what), model.panel(sw, sd, b, what));
            }
            default -> due("count(" + what + ")", board.count(what), model.count(what));
        }
    }
}
