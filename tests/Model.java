import java.util.ArrayList;
import java.util.Arrays;
import java.util.Collections;
import java.util.HashMap;
import java.util.HashSet;
import java.util.List;
import java.util.Map;
import java.util.NoSuchElementException;
import java.util.PriorityQueue;
import java.util.Set;
import java.util.TreeSet;

/** The document once more, as slow and plain as can be: what CopperBoard is held against. */
final class Model {
    static final int[] DX = {0, 1, 0, -1, 0, 0};
    static final int[] DY = {-1, 0, 1, 0, 0, 0};
    static final int[] DL = {0, 0, 0, 0, 1, -1};

    record Cell(int x, int y, int layer) {
        Cell go(int move) {
            return new Cell(x + DX[move], y + DY[move], layer + DL[move]);
        }
    }

    /** A move between two cells, the lower one (by layer, y, x) first. */
    record Edge(Cell a, Cell b) {
        static Edge of(Cell p, Cell q) {
            boolean first = p.layer() != q.layer() ? p.layer() < q.layer()
                    : p.y() != q.y() ? p.y() < q.y() : p.x() < q.x();
            return first ? new Edge(p, q) : new Edge(q, p);
        }

        boolean via() {
            return a.layer() != b.layer();
        }
    }

    static final class Sort {
        int step = 1;
        int via = 5;
        int bend = 0;
        int clear = 0;
        Set<Integer> layers = new TreeSet<>();
    }

    static final class Net {
        Sort sort;
        int rank;
        List<Cell> pins = new ArrayList<>();
        Set<Edge> wires = new HashSet<>();
        Set<Edge> traces = new HashSet<>();
    }

    final int wide;
    final int deep;
    final int layers;
    final List<Cell> all = new ArrayList<>();
    final List<Sort> sorts = new ArrayList<>();
    final List<Net> nets = new ArrayList<>();
    final Set<Cell> keepouts = new HashSet<>();
    String tape = "";
    int[] slow;
    int slowVia = 0;

    Model(int wide, int deep, int layers) {
        this.wide = wide < 2 ? 2 : wide > 9 ? 9 : wide;
        this.deep = deep < 2 ? 2 : deep > 9 ? 9 : deep;
        this.layers = layers < 1 ? 1 : layers > 4 ? 4 : layers;
        slow = new int[this.layers];
        Arrays.fill(slow, 1);
        for (int l = 0; l < this.layers; l++) {
            for (int y = 0; y < this.deep; y++) {
                for (int x = 0; x < this.wide; x++) {
                    all.add(new Cell(x, y, l));
                }
            }
        }
    }

    boolean on(Cell c) {
        return c.x() >= 0 && c.y() >= 0 && c.layer() >= 0 && c.x() < wide && c.y() < deep && c.layer() < layers;
    }

    boolean isNet(int n) {
        return n >= 0 && n < nets.size();
    }

    // ---- texts

    int feed(int a, int b, int c, int d, int e) {
        StringBuilder more = new StringBuilder();
        for (int word : new int[] {a, b, c, d, e}) {
            for (int i = 3; i >= 0; i--) {
                int value = (word >> (8 * i)) & 0xff;
                if (value != 0) {
                    more.append((char) value);
                }
            }
        }
        if (tape.length() + more.length() > 80) {
            return -1;
        }
        tape += more;
        return tape.length();
    }

    boolean end(int n) {
        if (n < 0 || n > tape.length()) {
            return false;
        }
        tape = tape.substring(0, n);
        return true;
    }

    /** Whether a text can still become a class: tried letter by letter, as an automaton of sets. */
    int fault() {
        String state = "want";
        Set<Character> used = new HashSet<>();
        Set<Integer> layersSeen = new HashSet<>();
        char letter = 0;
        String digits = "";
        for (int i = 0; i < tape.length(); i++) {
            char c = tape.charAt(i);
            boolean digit = c >= '0' && c <= '9';
            switch (state) {
                case "want":
                    if (c == ' ') {
                        break;
                    }
                    if ("svbcl".indexOf(c) < 0 || !used.add(c)) {
                        return i;
                    }
                    letter = c;
                    digits = "";
                    layersSeen.clear();
                    state = c == 'l' ? "layers" : "number";
                    break;
                case "number":
                    if (c == ' ') {
                        break;
                    }
                    if (!digit) {
                        return i;
                    }
                    digits = "" + c;
                    state = "second";
                    if (!(i + 1 < tape.length() && Character.isDigit(tape.charAt(i + 1)) && tape.charAt(i + 1) < 128)
                            && !inBounds(letter, Integer.parseInt(digits))) {
                        return i;
                    }
                    break;
                case "second":
                    if (digit) {
                        if (digits.length() == 2) {
                            return i;
                        }
                        digits += c;
                        if (!inBounds(letter, Integer.parseInt(digits))) {
                            return i;
                        }
                    } else if (c == ' ') {
                        state = "after";
                    } else if (c == ',') {
                        state = "want";
                    } else {
                        return i;
                    }
                    break;
                case "after":
                    if (c == ',') {
                        state = "want";
                    } else if (c != ' ') {
                        return i;
                    }
                    break;
                default:
                    if (c == ' ') {
                        break;
                    }
                    if (digit) {
                        if (c - '0' >= layers || !layersSeen.add(c - '0')) {
                            return i;
                        }
                    } else if (c == ',' && !layersSeen.isEmpty()) {
                        state = "want";
                    } else {
                        return i;
                    }
            }
        }
        boolean whole = state.equals("second") || state.equals("after")
                || state.equals("layers") && !layersSeen.isEmpty();
        return whole ? -1 : tape.length();
    }

    static boolean inBounds(char letter, int value) {
        return switch (letter) {
            case 's' -> value >= 1 && value <= 9;
            case 'c' -> value <= 2;
            default -> true;
        };
    }

    int sort() {
        if (sorts.size() == 6 || fault() != -1) {
            return -1;
        }
        Sort sort = new Sort();
        for (int l = 0; l < layers; l++) {
            sort.layers.add(l);
        }
        for (String part : tape.split(",")) {
            String setting = part.replace(" ", "");
            String rest = setting.substring(1);
            switch (setting.charAt(0)) {
                case 's' -> sort.step = Integer.parseInt(rest);
                case 'v' -> sort.via = Integer.parseInt(rest);
                case 'b' -> sort.bend = Integer.parseInt(rest);
                case 'c' -> sort.clear = Integer.parseInt(rest);
                default -> {
                    sort.layers.clear();
                    for (char c : rest.toCharArray()) {
                        sort.layers.add(c - '0');
                    }
                }
            }
        }
        tape = "";
        sorts.add(sort);
        return sorts.size() - 1;
    }

    int told(int s, int what) {
        if (s < 0 || s >= sorts.size() || what < 0 || what > 4) {
            throw new NoSuchElementException();
        }
        Sort sort = sorts.get(s);
        int bits = 0;
        for (int l : sort.layers) {
            bits += 1 << l;
        }
        return new int[] {sort.step, sort.via, sort.bend, sort.clear, bits}[what];
    }

    // ---- what is laid by hand

    int net(int s) {
        if (s < 0 || s >= sorts.size() || nets.size() == 8) {
            return -1;
        }
        Net net = new Net();
        net.sort = sorts.get(s);
        nets.add(net);
        return nets.size() - 1;
    }

    boolean pinIn(Cell c) {
        for (Net n : nets) {
            if (n.pins.contains(c)) {
                return true;
            }
        }
        return false;
    }

    int pin(int n, int x, int y, int layer) {
        Cell c = new Cell(x, y, layer);
        if (!isNet(n) || !on(c) || pinIn(c) || nets.get(n).pins.size() == 4) {
            return -1;
        }
        nets.get(n).pins.add(c);
        return nets.get(n).pins.size() - 1;
    }

    boolean keep(int x, int y, int x2, int y2, int bits) {
        if (!on(new Cell(x, y, 0)) || !on(new Cell(x2, y2, 0)) || x2 < x || y2 < y) {
            return false;
        }
        if (bits <= 0 || bits >= 1 << layers) {
            return false;
        }
        for (Cell c : all) {
            if (c.x() >= x && c.x() <= x2 && c.y() >= y && c.y() <= y2 && (bits & 1 << c.layer()) != 0) {
                keepouts.add(c);
            }
        }
        return true;
    }

    boolean wire(int n, int x, int y, int x2, int y2, int layer) {
        Cell a = new Cell(x, y, layer);
        Cell b = new Cell(x2, y2, layer);
        if (!isNet(n) || !on(a) || !on(b) || a.equals(b) || x != x2 && y != y2) {
            return false;
        }
        int sx = Integer.signum(x2 - x);
        int sy = Integer.signum(y2 - y);
        while (!a.equals(b)) {
            Cell next = new Cell(a.x() + sx, a.y() + sy, layer);
            nets.get(n).wires.add(Edge.of(a, next));
            a = next;
        }
        return true;
    }

    boolean hole(int n, int x, int y, int layer) {
        Cell a = new Cell(x, y, layer);
        Cell b = a.go(4);
        if (!isNet(n) || !on(a) || !on(b)) {
            return false;
        }
        nets.get(n).wires.add(Edge.of(a, b));
        return true;
    }

    boolean unwire(int n) {
        if (!isNet(n) || nets.get(n).wires.isEmpty()) {
            return false;
        }
        nets.get(n).wires.clear();
        return true;
    }

    // ---- copper and free cells

    static Set<Cell> ends(Set<Edge> edges) {
        Set<Cell> cells = new HashSet<>();
        for (Edge e : edges) {
            cells.add(e.a());
            cells.add(e.b());
        }
        return cells;
    }

    static Set<Cell> solid(Net n) {
        Set<Cell> cells = ends(n.wires);
        cells.addAll(n.pins);
        return cells;
    }

    static Set<Cell> copperOf(Net n) {
        Set<Cell> cells = solid(n);
        cells.addAll(ends(n.traces));
        return cells;
    }

    int copper(int x, int y, int layer) {
        Cell c = new Cell(x, y, layer);
        if (!on(c)) {
            return -1;
        }
        int bits = 0;
        for (int i = 0; i < nets.size(); i++) {
            if (copperOf(nets.get(i)).contains(c)) {
                bits |= 1 << i;
            }
        }
        return bits;
    }

    static boolean near(Cell a, Cell b, Net n, Net m) {
        int clear = Math.max(n.sort.clear, m.sort.clear);
        return a.layer() == b.layer() && Math.abs(a.x() - b.x()) <= clear && Math.abs(a.y() - b.y()) <= clear;
    }

    /** Cells free for a net; traces of the nets in gone don't bar; anyLayer as for a plane. */
    Set<Cell> freeCells(Net n, Set<Net> gone, boolean anyLayer) {
        Set<Cell> barred = new HashSet<>();
        for (Net m : nets) {
            if (m != n) {
                for (Cell p : gone.contains(m) ? solid(m) : copperOf(m)) {
                    for (Cell c : all) {
                        if (near(c, p, n, m)) {
                            barred.add(c);
                        }
                    }
                }
            }
        }
        Set<Cell> mine = copperOf(n);
        Set<Cell> free = new HashSet<>();
        for (Cell c : all) {
            boolean layerFits = anyLayer || n.sort.layers.contains(c.layer());
            if (mine.contains(c) || layerFits && !keepouts.contains(c) && !barred.contains(c)) {
                free.add(c);
            }
        }
        return free;
    }

    int free(int n, int x, int y, int layer) {
        Cell c = new Cell(x, y, layer);
        if (!isNet(n) || !on(c)) {
            return -1;
        }
        return freeCells(nets.get(n), Set.of(), false).contains(c) ? 1 : 0;
    }

    // ---- laying

    static Set<Cell> joinedWith(Net n, Cell start) {
        Set<Cell> seen = new HashSet<>(List.of(start));
        boolean more = true;
        while (more) {
            more = false;
            for (Set<Edge> edges : List.of(n.wires, n.traces)) {
                for (Edge e : edges) {
                    if (seen.contains(e.a()) != seen.contains(e.b())) {
                        seen.add(e.a());
                        seen.add(e.b());
                        more = true;
                    }
                }
            }
        }
        return seen;
    }

    record Label(int cost, int moves, String way, Cell cell, int dir) implements Comparable<Label> {
        public int compareTo(Label o) {
            return cost != o.cost ? Integer.compare(cost, o.cost)
                    : moves != o.moves ? Integer.compare(moves, o.moves) : way.compareTo(o.way);
        }
    }

    Label best(Net n, Cell from, Set<Cell> goal, Set<Cell> free, boolean vias, Map<Cell, Integer> extra) {
        PriorityQueue<Label> open = new PriorityQueue<>();
        Set<String> done = new HashSet<>();
        open.add(new Label(0, 0, "", from, -1));
        while (!open.isEmpty()) {
            Label l = open.poll();
            if (goal.contains(l.cell())) {
                return l;
            }
            if (!done.add(l.cell() + "/" + l.dir())) {
                continue;
            }
            for (int m = 0; m < (vias ? 6 : 4); m++) {
                Cell to = l.cell().go(m);
                if (free.contains(to)) {
                    int price = m >= 4 ? n.sort.via : n.sort.step;
                    if (m < 4 && l.dir() >= 0 && l.dir() != m) {
                        price += n.sort.bend;
                    }
                    price += extra.getOrDefault(to, 0);
                    open.add(new Label(l.cost() + price, l.moves() + 1, l.way() + m, to, m < 4 ? m : l.dir()));
                }
            }
        }
        return null;
    }

    /** Lays a net or leaves all as it was and answers -1. */
    int layIt(Net n, Set<Net> gone, boolean vias, Map<Cell, Integer> extra) {
        if (n.pins.isEmpty()) {
            return -1;
        }
        Set<Edge> before = new HashSet<>(n.traces);
        n.traces.clear();
        int sum = 0;
        for (int p = 1; p < n.pins.size(); p++) {
            Set<Cell> goal = joinedWith(n, n.pins.get(0));
            if (goal.contains(n.pins.get(p))) {
                continue;
            }
            Label l = best(n, n.pins.get(p), goal, freeCells(n, gone, false), vias, extra);
            if (l == null) {
                n.traces.clear();
                n.traces.addAll(before);
                return -1;
            }
            sum += l.cost();
            Cell c = n.pins.get(p);
            for (char ch : l.way().toCharArray()) {
                Cell to = c.go(ch - '0');
                n.traces.add(Edge.of(c, to));
                c = to;
            }
        }
        return sum;
    }

    int lay(int n) {
        return isNet(n) ? layIt(nets.get(n), Set.of(), true, Map.of()) : -1;
    }

    List<Set<Edge>> copyTraces() {
        List<Set<Edge>> copy = new ArrayList<>();
        for (Net n : nets) {
            copy.add(new HashSet<>(n.traces));
        }
        return copy;
    }

    void putTraces(List<Set<Edge>> copy) {
        for (int i = 0; i < nets.size(); i++) {
            nets.get(i).traces.clear();
            nets.get(i).traces.addAll(copy.get(i));
        }
    }

    void noTraces() {
        for (Net n : nets) {
            n.traces.clear();
        }
    }

    int cost(int n, boolean vias) {
        if (!isNet(n)) {
            return -1;
        }
        List<Set<Edge>> copy = copyTraces();
        int sum = layIt(nets.get(n), Set.of(), vias, Map.of());
        putTraces(copy);
        return sum;
    }

    boolean rip(int n) {
        if (!isNet(n) || nets.get(n).traces.isEmpty()) {
            return false;
        }
        nets.get(n).traces.clear();
        return true;
    }

    boolean rank(int n, int v) {
        if (!isNet(n) || v < 0 || v > 99) {
            return false;
        }
        nets.get(n).rank = v;
        return true;
    }

    int order() {
        noTraces();
        List<Integer> row = new ArrayList<>();
        for (int i = 0; i < nets.size(); i++) {
            row.add(i);
        }
        row.sort((a, b) -> nets.get(a).rank != nets.get(b).rank ? nets.get(a).rank - nets.get(b).rank : a - b);
        int bits = 0;
        for (int i : row) {
            if (!nets.get(i).pins.isEmpty() && layIt(nets.get(i), Set.of(), true, Map.of()) < 0) {
                bits |= 1 << i;
            }
        }
        return bits;
    }

    int press(int turns, int pressure) {
        if (turns < 1 || turns > 20 || pressure < 1 || pressure > 20) {
            return -1;
        }
        List<Set<Edge>> copy = copyTraces();
        noTraces();
        Map<Cell, Integer> heat = new HashMap<>();
        for (int t = 1; t <= turns; t++) {
            for (Net n : nets) {
                if (n.pins.isEmpty()) {
                    continue;
                }
                Map<Cell, Integer> extra = new HashMap<>(heat);
                for (Cell c : all) {
                    for (Net m : nets) {
                        if (m != n && traceNear(c, n, m)) {
                            extra.merge(c, pressure, Integer::sum);
                        }
                    }
                }
                if (layIt(n, new HashSet<>(nets), true, extra) < 0) {
                    putTraces(copy);
                    return -1;
                }
            }
            Set<Cell> hot = new HashSet<>();
            for (Net n : nets) {
                for (Cell c : ends(n.traces)) {
                    for (Net m : nets) {
                        if (m != n && traceNear(c, n, m)) {
                            hot.add(c);
                        }
                    }
                }
            }
            if (hot.isEmpty()) {
                return t;
            }
            for (Cell c : hot) {
                heat.merge(c, 1, Integer::sum);
            }
        }
        putTraces(copy);
        return -1;
    }

    boolean traceNear(Cell c, Net n, Net m) {
        for (Cell p : ends(m.traces)) {
            if (near(c, p, n, m)) {
                return true;
            }
        }
        return false;
    }

    // ---- what stands in the way

    Set<Cell> flood(Set<Cell> free, Cell start) {
        Set<Cell> seen = new HashSet<>(List.of(start));
        List<Cell> row = new ArrayList<>(seen);
        while (!row.isEmpty()) {
            Cell c = row.remove(row.size() - 1);
            for (int m = 0; m < 6; m++) {
                if (free.contains(c.go(m)) && seen.add(c.go(m))) {
                    row.add(c.go(m));
                }
            }
        }
        return seen;
    }

    int cut(int n, int what) {
        if (!isNet(n) || what < 0 || what > 3 || nets.get(n).pins.isEmpty()) {
            return -1;
        }
        Net net = nets.get(n);
        Set<Edge> before = new HashSet<>(net.traces);
        net.traces.clear();
        Set<Cell> free = freeCells(net, Set.of(), false);
        Set<Cell> reached = flood(free, net.pins.get(0));
        Set<Cell> wall = new HashSet<>();
        for (Cell c : reached) {
            for (int m = 0; m < 6; m++) {
                if (on(c.go(m)) && !reached.contains(c.go(m))) {
                    wall.add(c.go(m));
                }
            }
        }
        int bits = 0;
        for (Cell c : wall) {
            if (net.sort.layers.contains(c.layer()) && !keepouts.contains(c)) {
                for (int i = 0; i < nets.size(); i++) {
                    for (Cell p : copperOf(nets.get(i))) {
                        if (i != n && near(c, p, net, nets.get(i))) {
                            bits |= 1 << i;
                        }
                    }
                }
            }
        }
        net.traces.addAll(before);
        if (what == 1) {
            for (int p = 0; p < net.pins.size(); p++) {
                if (!reached.contains(net.pins.get(p))) {
                    return p;
                }
            }
            return -1;
        }
        return what == 0 ? reached.size() : what == 2 ? wall.size() : bits;
    }

    /** All sets of other nets, the smaller first, then as BARS tells. */
    List<List<Integer>> othersBySize(int n, int most) {
        List<List<Integer>> sets = new ArrayList<>();
        for (int bits = 0; bits < 1 << nets.size(); bits++) {
            if ((bits & 1 << n) == 0 && Integer.bitCount(bits) <= most) {
                List<Integer> set = new ArrayList<>();
                for (int i = 0; i < nets.size(); i++) {
                    if ((bits & 1 << i) != 0) {
                        set.add(i);
                    }
                }
                sets.add(set);
            }
        }
        sets.sort((a, b) -> {
            if (a.size() != b.size()) {
                return a.size() - b.size();
            }
            for (int i = 0; i < a.size(); i++) {
                if (!a.get(i).equals(b.get(i))) {
                    return a.get(i) - b.get(i);
                }
            }
            return 0;
        });
        return sets;
    }

    static int bitsOf(List<Integer> set) {
        int bits = 0;
        for (int i : set) {
            bits |= 1 << i;
        }
        return bits;
    }

    int fewest(int n, boolean vias) {
        if (!isNet(n) || nets.get(n).pins.isEmpty()) {
            return -1;
        }
        List<Set<Edge>> copy = copyTraces();
        for (List<Integer> set : othersBySize(n, 8)) {
            Set<Net> gone = new HashSet<>();
            for (int i : set) {
                gone.add(nets.get(i));
            }
            int sum = layIt(nets.get(n), gone, vias, Map.of());
            putTraces(copy);
            if (sum >= 0) {
                return bitsOf(set);
            }
        }
        return -1;
    }

    int bars(int n) {
        return fewest(n, true);
    }

    int why(int n) {
        return fewest(n, false);
    }

    int together(int bits) {
        List<Integer> set = new ArrayList<>();
        for (int i = 0; i < 32; i++) {
            if ((bits >>> i & 1) != 0) {
                set.add(i);
            }
        }
        if (set.isEmpty() || set.size() > 3 || all.size() > 24) {
            return -1;
        }
        for (int i : set) {
            if (!isNet(i) || nets.get(i).pins.size() != 2 || !nets.get(i).wires.isEmpty()) {
                return -1;
            }
        }
        List<Set<Edge>> copy = copyTraces();
        for (int i : set) {
            nets.get(i).traces.clear();
        }
        boolean can = ways(set, 0);
        putTraces(copy);
        return can ? 1 : 0;
    }

    private boolean ways(List<Integer> set, int at) {
        if (at == set.size()) {
            return true;
        }
        Net n = nets.get(set.get(at));
        Set<Cell> free = freeCells(n, Set.of(), false);
        if (!flood(free, n.pins.get(0)).contains(n.pins.get(1))) {
            return false;
        }
        if (at == set.size() - 1) {
            return true;
        }
        return go(set, at, n.pins.get(0), free, new HashSet<>(List.of(n.pins.get(0))));
    }

    private boolean go(List<Integer> set, int at, Cell c, Set<Cell> free, Set<Cell> used) {
        Net n = nets.get(set.get(at));
        if (c.equals(n.pins.get(1))) {
            return ways(set, at + 1);
        }
        for (int m = 0; m < 6; m++) {
            Cell to = c.go(m);
            if (free.contains(to) && used.add(to)) {
                Edge e = Edge.of(c, to);
                n.traces.add(e);
                boolean can = go(set, at, to, free, used);
                n.traces.remove(e);
                used.remove(to);
                if (can) {
                    return true;
                }
            }
        }
        return false;
    }

    // ---- figures

    static int steps(Set<Edge> edges) {
        int many = 0;
        for (Edge e : edges) {
            many += e.via() ? 0 : 1;
        }
        return many;
    }

    int about(int n, int what) {
        if (!isNet(n) || what < 0 || what > 4) {
            return -1;
        }
        Net net = nets.get(n);
        int steps = steps(net.traces);
        return new int[] {steps, net.traces.size() - steps, copperOf(net).size(), net.pins.size(), net.rank}[what];
    }

    /** The cells along the trace from the second pin on. */
    static List<Cell> trail(Net n) {
        List<Cell> row = new ArrayList<>(List.of(n.pins.get(1)));
        Set<Edge> left = new HashSet<>(n.traces);
        boolean more = true;
        while (more) {
            more = false;
            Cell c = row.get(row.size() - 1);
            for (Edge e : List.copyOf(left)) {
                if (e.a().equals(c) || e.b().equals(c)) {
                    left.remove(e);
                    row.add(e.a().equals(c) ? e.b() : e.a());
                    more = true;
                    break;
                }
            }
        }
        return row;
    }

    boolean stretchable(int n) {
        return isNet(n) && nets.get(n).pins.size() == 2 && nets.get(n).wires.isEmpty() && !nets.get(n).traces.isEmpty();
    }

    int stretch(int n, int length) {
        if (!stretchable(n) || length < 0 || length > 200) {
            return -1;
        }
        return stretchIt(nets.get(n), length);
    }

    int stretchIt(Net net, int length) {
        List<Cell> row = trail(net);
        for (int i = 0; i + 1 < row.size(); i++) {
            Cell a = row.get(i);
            Cell b = row.get(i + 1);
            int dx = b.x() - a.x();
            int dy = b.y() - a.y();
            if (a.layer() != b.layer() || steps(net.traces) + 2 > length) {
                continue;
            }
            for (int side = 1; side >= -1; side -= 2) {
                // With y to the south the left of (dx, dy) is (dy, -dx).
                Cell p = new Cell(a.x() + side * dy, a.y() - side * dx, a.layer());
                Cell q = new Cell(b.x() + side * dy, b.y() - side * dx, b.layer());
                Set<Cell> free = freeCells(net, Set.of(), false);
                free.removeAll(copperOf(net));
                if (free.contains(p) && free.contains(q)) {
                    net.traces.remove(Edge.of(a, b));
                    net.traces.add(Edge.of(a, p));
                    net.traces.add(Edge.of(p, q));
                    net.traces.add(Edge.of(q, b));
                    break;
                }
            }
        }
        return steps(net.traces);
    }

    int span(int n) {
        if (!stretchable(n)) {
            return -1;
        }
        List<Set<Edge>> copy = copyTraces();
        int length = stretchIt(nets.get(n), 1000000);
        putTraces(copy);
        return length;
    }

    int equal(int bits, int by) {
        if (bits <= 0 || bits >= 1 << nets.size() || by < 0 || by > 200) {
            return -1;
        }
        List<Integer> lengths = new ArrayList<>();
        for (int i = 0; i < nets.size(); i++) {
            if ((bits & 1 << i) != 0) {
                lengths.add(steps(nets.get(i).traces));
            }
        }
        return Collections.max(lengths) - Collections.min(lengths) <= by ? 1 : 0;
    }

    Set<Cell> planeOf(Net n, int layer) {
        Set<Cell> plane = new HashSet<>();
        for (Cell c : freeCells(n, Set.of(), true)) {
            if (c.layer() == layer) {
                plane.add(c);
            }
        }
        return plane;
    }

    /** Parts with own copper and islands without. */
    int[] parts(Set<Cell> plane, Set<Cell> own) {
        int[] many = new int[2];
        Set<Cell> left = new HashSet<>(plane);
        while (!left.isEmpty()) {
            Set<Cell> part = flood(plane, left.iterator().next());
            left.removeAll(part);
            many[Collections.disjoint(part, own) ? 1 : 0]++;
        }
        return many;
    }

    int plane(int n, int layer, int what) {
        if (!isNet(n) || layer < 0 || layer >= layers || what < 0 || what > 3) {
            return -1;
        }
        Set<Cell> plane = planeOf(nets.get(n), layer);
        Set<Cell> own = copperOf(nets.get(n));
        if (what == 0) {
            return plane.size();
        }
        int[] many = parts(plane, own);
        if (what < 3) {
            return many[what - 1];
        }
        int necks = 0;
        for (Cell c : plane) {
            if (!own.contains(c)) {
                Set<Cell> less = new HashSet<>(plane);
                less.remove(c);
                necks += parts(less, own)[0] > many[0] ? 1 : 0;
            }
        }
        return necks;
    }

    int spokes(int n, int pin) {
        if (!isNet(n) || pin < 0 || pin >= nets.get(n).pins.size()) {
            return -1;
        }
        Cell c = nets.get(n).pins.get(pin);
        Set<Cell> plane = planeOf(nets.get(n), c.layer());
        int many = 0;
        for (int m = 0; m < 4; m++) {
            many += plane.contains(c.go(m)) ? 1 : 0;
        }
        return many;
    }

    int back(int n, int of, int layer) {
        if (!isNet(n) || !isNet(of) || n == of || layer < 0 || layer >= layers) {
            return -1;
        }
        Set<Cell> plane = planeOf(nets.get(of), layer);
        int many = 0;
        for (Cell c : copperOf(nets.get(n))) {
            if (Math.abs(c.layer() - layer) == 1 && !plane.contains(new Cell(c.x(), c.y(), layer))) {
                many++;
            }
        }
        return many;
    }

    int[] wandered(int x, int y) {
        int[] many = new int[2];
        for (Net n : nets) {
            Set<Edge> edges = new HashSet<>(n.wires);
            edges.addAll(n.traces);
            for (Edge e : edges) {
                if (!e.via()) {
                    continue;
                }
                boolean other = false;
                boolean lost = false;
                for (Cell end : List.of(e.a(), e.b())) {
                    Cell c = new Cell(end.x() + x, end.y() + y, end.layer());
                    lost |= !copperOf(n).contains(c);
                    for (Net m : nets) {
                        other |= m != n && copperOf(m).contains(c);
                    }
                }
                many[0] += other ? 1 : 0;
                many[1] += lost ? 1 : 0;
            }
        }
        return many;
    }

    int wander(int x, int y, int what) {
        if (Math.abs((long) x) > 3 || Math.abs((long) y) > 3 || what < 0 || what > 1) {
            return -1;
        }
        return wandered(x, y)[what];
    }

    int worst(int most, int what) {
        if (most < 0 || most > 3 || what < 0 || what > 2) {
            return -1000;
        }
        int[] best = {0, 0, -1};
        for (int x = -most; x <= most; x++) {
            for (int y = -most; y <= most; y++) {
                int[] many = wandered(x, y);
                if (many[0] + many[1] > best[2]) {
                    best = new int[] {x, y, many[0] + many[1]};
                }
            }
        }
        return best[what];
    }

    int late(int n, int pin, int x, int y, int layer) {
        Cell c = new Cell(x, y, layer);
        if (!isNet(n) || pin < 0 || pin >= nets.get(n).pins.size() || !on(c) || pinIn(c)) {
            return -1;
        }
        List<Set<Edge>> copy = copyTraces();
        Cell before = nets.get(n).pins.get(pin);
        nets.get(n).pins.set(pin, c);
        for (List<Integer> set : othersBySize(n, 3)) {
            putTraces(copy);
            nets.get(n).traces.clear();
            for (int i : set) {
                nets.get(i).traces.clear();
            }
            boolean can = layIt(nets.get(n), Set.of(), true, Map.of()) >= 0;
            for (int i : set) {
                can = can && layIt(nets.get(i), Set.of(), true, Map.of()) >= 0;
            }
            if (can) {
                return bitsOf(set);
            }
        }
        putTraces(copy);
        nets.get(n).pins.set(pin, before);
        return -1;
    }

    int netlist(int what) {
        if (what < 0 || what > 1) {
            return -1;
        }
        Net merged = new Net();
        for (Net n : nets) {
            merged.wires.addAll(n.wires);
            merged.traces.addAll(n.traces);
        }
        Map<Cell, Set<Cell>> parts = new HashMap<>();
        for (Net n : nets) {
            for (Cell c : copperOf(n)) {
                parts.put(c, joinedWith(merged, c));
            }
        }
        int shorts = 0;
        int opens = 0;
        for (int i = 0; i < nets.size(); i++) {
            for (int j = 0; j < i; j++) {
                boolean joined = false;
                for (Cell c : copperOf(nets.get(i))) {
                    joined |= !Collections.disjoint(parts.get(c), copperOf(nets.get(j)));
                }
                shorts += joined ? 1 : 0;
            }
            Set<Set<Cell>> different = new HashSet<>();
            for (Cell c : nets.get(i).pins) {
                different.add(parts.get(c));
            }
            opens += Math.max(0, different.size() - 1);
        }
        return what == 0 ? shorts : opens;
    }

    int test(int layer) {
        if (layer < 0 || layer >= layers) {
            return -1;
        }
        int bits = 0;
        for (int i = 0; i < nets.size(); i++) {
            for (Cell c : copperOf(nets.get(i))) {
                boolean can = c.layer() == layer && !keepouts.contains(c);
                for (int j = 0; j < nets.size(); j++) {
                    Set<Cell> other = j == i ? Set.of() : copperOf(nets.get(j));
                    can &= !other.contains(c);
                    for (int m = 0; m < 4; m++) {
                        can &= !other.contains(c.go(m));
                    }
                }
                bits |= can ? 1 << i : 0;
            }
        }
        return bits;
    }

    boolean slow(int layer, int v) {
        if (layer < -1 || layer >= layers || v < 0 || v > 99) {
            return false;
        }
        if (layer == -1) {
            slowVia = v;
        } else {
            slow[layer] = v;
        }
        return true;
    }

    int delay(int n) {
        if (!isNet(n)) {
            return -1;
        }
        Set<Edge> edges = new HashSet<>(nets.get(n).wires);
        edges.addAll(nets.get(n).traces);
        int sum = 0;
        for (Edge e : edges) {
            sum += e.via() ? slowVia : slow[e.a().layer()];
        }
        return sum;
    }

    static boolean beside(Cell c, Set<Cell> other) {
        boolean so = false;
        for (int m = 0; m < 4; m++) {
            so |= other.contains(c.go(m));
        }
        return so;
    }

    int pair(int a, int b, int what) {
        if (!isNet(a) || !isNet(b) || a == b || what < 0 || what > 3) {
            return -1000;
        }
        Set<Cell> other = copperOf(nets.get(b));
        int many = 0;
        if (what == 0) {
            for (Cell c : copperOf(nets.get(a))) {
                many += beside(c, other) ? 1 : 0;
            }
            return many;
        }
        if (what == 1) {
            return delay(a) - delay(b);
        }
        if (what == 3) {
            for (Edge e : nets.get(a).traces) {
                many += !e.via() && beside(e.a(), other) != beside(e.b(), other) ? 1 : 0;
            }
            return many;
        }
        if (!stretchable(a)) {
            return -1000;
        }
        int most = 0;
        for (Cell c : trail(nets.get(a))) {
            many = beside(c, other) ? many + 1 : 0;
            most = Math.max(most, many);
        }
        return most;
    }

    int beside(int turns, int pressure, int what) {
        if (turns < 1 || turns > 20 || pressure < 1 || pressure > 20 || what < 0 || what > 5) {
            return -1;
        }
        List<Set<Edge>> copy = copyTraces();
        int many = 0;
        boolean well = true;
        if (what < 3) {
            int failed = order();
            for (int i = 0; i < nets.size(); i++) {
                many += !nets.get(i).pins.isEmpty() && (failed & 1 << i) == 0 ? 1 : 0;
            }
        } else {
            noTraces();
            well = press(turns, pressure) >= 1;
        }
        int length = 0;
        int vias = 0;
        for (int i = 0; i < nets.size(); i++) {
            length += about(i, 0);
            vias += about(i, 1);
        }
        putTraces(copy);
        if (what == 0) {
            return many;
        }
        if (what == 3) {
            return well ? 1 : 0;
        }
        return !well ? -1 : what == 1 || what == 4 ? length : vias;
    }

    boolean steady() {
        List<Set<Edge>> copy = copyTraces();
        order();
        boolean same = copyTraces().equals(copy);
        putTraces(copy);
        return same;
    }

    /** How many of a size fit, found by laying one behind the other. */
    static int row(int room, int size, int between) {
        int many = 0;
        int at = 0;
        while (at + size <= room) {
            many++;
            at += size + between;
        }
        return many;
    }

    int panel(int sw, int sd, int between, int what) {
        if (sw < 1 || sw > 200 || sd < 1 || sd > 200 || between < 0 || between > 9 || what < 0 || what > 3) {
            return -1;
        }
        int up = row(sw, wide, between) * row(sd, deep, between);
        int turned = row(sw, deep, between) * row(sd, wide, between);
        if (what < 2) {
            return what == 0 ? Math.max(up, turned) : turned > up ? 1 : 0;
        }
        int most = -1;
        int columns = 0;
        for (int k = 0; k == 0 || k * wide + (k - 1) * between <= sw; k++) {
            int left = sw - k * wide - k * between;
            int sum = k * row(sd, deep, between) + row(left, deep, between) * row(sd, wide, between);
            if (sum > most) {
                most = sum;
                columns = k;
            }
        }
        return what == 2 ? most : columns;
    }

    int count(int what) {
        int[] all = {sorts.size(), nets.size(), tape.length(), wide, deep, layers};
        return what < 0 || what > 5 ? -1 : all[what];
    }
}
