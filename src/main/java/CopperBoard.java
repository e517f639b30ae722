import java.util.Arrays;
import java.util.NoSuchElementException;

/** A board of layers on which copper of several nets is laid so that it does not cross. */
public final class CopperBoard {
    public static final int NONE = -1;
    public static final int HIDDEN = -1000;

    private static final int MOST_SORTS = 6;
    private static final int MOST_NETS = 8;
    private static final int MOST_PINS = 4;
    private static final int MOST_BYTES = 80;
    private static final int MOST_RANK = 99;
    private static final int MOST_LENGTH = 200;
    private static final int MOST_TURNS = 20;
    private static final int MOST_SHEET = 200;
    private static final int ALL_NETS = 255;
    /** More than any number that the board counts up to. */
    private static final int ENDLESS = 0x7fffffff;

    /** Moves, in the order of the document: north, east, south, west, below, above. */
    private static final int MOVES = 6;
    private static final int STEPS = 4;
    private static final int BELOW = 4;
    private static final int[] OPPOSITE = {2, 3, 0, 1, 5, 4};

    private static final int SETTINGS = 5;
    private static final int STEP = 0;
    private static final int VIA = 1;
    private static final int BEND = 2;
    private static final int CLEAR = 3;
    private static final int LAYERS = 4;

    private final Grid grid;
    private final Tape tape;
    private final Nets nets;
    private final Room room;
    private final Router router;
    private final Presser presser;
    private final Chooser chooser;
    private final Trial trial;
    private final Planes planes;
    private final Checks checks;
    private final Trail trail;

    public CopperBoard(int wide, int deep, int layers) {
        grid = new Grid(within(wide, 2, 9), within(deep, 2, 9), within(layers, 1, 4));
        tape = new Tape(grid.layers);
        nets = new Nets(grid);
        room = new Room(grid, nets);
        router = new Router(grid, nets, room);
        presser = new Presser(grid, nets, room, router);
        chooser = new Chooser(grid, nets, room, router);
        trial = new Trial(grid, nets, room);
        planes = new Planes(grid, nets, room);
        checks = new Checks(grid, nets);
        trail = new Trail(grid, nets, room);
    }

    public int feed(int a, int b, int c, int d, int e) {
        int more = Tape.bytesIn(a) + Tape.bytesIn(b) + Tape.bytesIn(c) + Tape.bytesIn(d) + Tape.bytesIn(e);
        if (tape.length + more > MOST_BYTES) {
            return NONE;
        }
        tape.take(a);
        tape.take(b);
        tape.take(c);
        tape.take(d);
        tape.take(e);
        return tape.length;
    }

    public boolean end(int n) {
        if (n < 0 || n > tape.length) {
            return false;
        }
        tape.length = n;
        return true;
    }

    public int fault() {
        return tape.scan();
    }

    public int sort() {
        if (nets.sorts >= MOST_SORTS || tape.scan() != NONE) {
            return NONE;
        }
        tape.length = 0;
        return nets.addSort(tape.found);
    }

    public int told(int sort, int what) throws NoSuchElementException {
        if (sort < 0 || sort >= nets.sorts || what < 0 || what >= SETTINGS) {
            throw new NoSuchElementException("no such class or setting");
        }
        return nets.settings[sort * SETTINGS + what];
    }

    public int net(int sort) {
        if (sort < 0 || sort >= nets.sorts || nets.amount >= MOST_NETS) {
            return NONE;
        }
        return nets.addNet(sort);
    }

    public int pin(int net, int x, int y, int layer) {
        int cell = grid.cellAt(x, y, layer);
        if (!isNet(net) || cell == NONE || nets.hasPin(cell) || nets.pinCounts[net] >= MOST_PINS) {
            return NONE;
        }
        return nets.addPin(net, cell);
    }

    public boolean keep(int x, int y, int x2, int y2, int layers) {
        if (grid.cellAt(x, y, 0) == NONE || grid.cellAt(x2, y2, 0) == NONE || x2 < x || y2 < y) {
            return false;
        }
        if (layers == 0 || (layers & ~grid.allLayers()) != 0) {
            return false;
        }
        for (int layer = 0; layer < grid.layers; layer++) {
            if ((layers >> layer & 1) != 0) {
                nets.close(x, y, x2, y2, layer);
            }
        }
        return true;
    }

    public boolean wire(int net, int x, int y, int x2, int y2, int layer) {
        int from = grid.cellAt(x, y, layer);
        int to = grid.cellAt(x2, y2, layer);
        if (!isNet(net) || from == NONE || to == NONE || from == to || (x != x2 && y != y2)) {
            return false;
        }
        int move = x == x2 ? (y2 < y ? 0 : 2) : (x2 > x ? 1 : 3);
        nets.addWire(net, from, move, Math.abs(x2 - x) + Math.abs(y2 - y));
        return true;
    }

    public boolean hole(int net, int x, int y, int layer) {
        int cell = grid.cellAt(x, y, layer);
        if (!isNet(net) || cell == NONE || layer + 1 >= grid.layers) {
            return false;
        }
        nets.addWire(net, cell, BELOW, 1);
        return true;
    }

    public int copper(int x, int y, int layer) {
        int cell = grid.cellAt(x, y, layer);
        return cell == NONE ? NONE : nets.copperAt(cell);
    }

    public int free(int net, int x, int y, int layer) {
        int cell = grid.cellAt(x, y, layer);
        if (!isNet(net) || cell == NONE) {
            return NONE;
        }
        room.look(net, true);
        room.mark(0);
        return room.free[cell];
    }

    public int lay(int net) {
        return isNet(net) ? router.layNet(net) : NONE;
    }

    public int cost(int net, boolean vias) {
        return isNet(net) ? router.tryCost(net, vias) : NONE;
    }

    public boolean rip(int net) {
        if (!isNet(net) || !nets.hasTraces(net)) {
            return false;
        }
        nets.removeTraces(net);
        return true;
    }

    public boolean rank(int net, int v) {
        if (!isNet(net) || v < 0 || v > MOST_RANK) {
            return false;
        }
        nets.ranks[net] = v;
        return true;
    }

    public int order() {
        return presser.layInOrder();
    }

    public int press(int turns, int pressure) {
        if (!arePressing(turns, pressure)) {
            return NONE;
        }
        nets.saveTraces();
        int behind = presser.pressAll(turns, pressure);
        if (behind == NONE) {
            nets.restoreTraces();
        }
        return behind;
    }

    public int cut(int net, int what) {
        if (!isNet(net) || what < 0 || what > 3 || nets.pinCounts[net] == 0) {
            return NONE;
        }
        return chooser.cutOf(net, what);
    }

    public int bars(int net) {
        return isNet(net) && nets.pinCounts[net] > 0 ? chooser.fewestBars(net, MOVES) : NONE;
    }

    public int together(int nets) {
        return areNets(nets) ? trial.tryWholly(nets) : NONE;
    }

    public int about(int net, int what) {
        if (!isNet(net)) {
            return NONE;
        }
        switch (what) {
            case 0:
                return nets.lengthOf(net);
            case 1:
                return nets.viasOf(net);
            case 2:
                return nets.cellsOf(net);
            case 3:
                return nets.pinCounts[net];
            case 4:
                return nets.ranks[net];
            default:
                return NONE;
        }
    }

    public int stretch(int net, int length) {
        if (!isNet(net) || length < 0 || length > MOST_LENGTH || !trail.canFollow(net)) {
            return NONE;
        }
        return trail.bendOut(net, length);
    }

    public int span(int net) {
        if (!isNet(net) || !trail.canFollow(net)) {
            return NONE;
        }
        nets.saveTraces();
        int most = trail.bendOut(net, ENDLESS);
        nets.restoreTraces();
        return most;
    }

    public int equal(int nets, int by) {
        if (!areNets(nets) || by < 0 || by > MOST_LENGTH) {
            return NONE;
        }
        int least = ENDLESS;
        int most = 0;
        for (int net = 0; net < this.nets.amount; net++) {
            if ((nets >> net & 1) != 0) {
                int length = this.nets.lengthOf(net);
                least = Math.min(least, length);
                most = Math.max(most, length);
            }
        }
        return most - least <= by ? 1 : 0;
    }

    public int plane(int net, int layer, int what) {
        if (!isNet(net) || !isLayer(layer) || what < 0 || what > 3) {
            return NONE;
        }
        return planes.figure(net, layer, what);
    }

    public int spokes(int net, int pin) {
        if (!isNet(net) || pin < 0 || pin >= nets.pinCounts[net]) {
            return NONE;
        }
        return planes.spokesAt(net, nets.pinCell(net, pin));
    }

    public int back(int net, int of, int layer) {
        if (!isNet(net) || !isNet(of) || net == of || !isLayer(layer)) {
            return NONE;
        }
        return planes.withoutReturn(net, of, layer);
    }

    public int wander(int x, int y, int what) {
        if (x < -3 || x > 3 || y < -3 || y > 3 || what < 0 || what > 1) {
            return NONE;
        }
        checks.shiftVias(x, y);
        return what == 0 ? checks.shorts : checks.opens;
    }

    public int worst(int most, int what) {
        if (most < 0 || most > 3 || what < 0 || what > 2) {
            return HIDDEN;
        }
        return checks.worstShift(most, what);
    }

    public int late(int net, int pin, int x, int y, int layer) {
        int cell = grid.cellAt(x, y, layer);
        if (!isNet(net) || pin < 0 || pin >= nets.pinCounts[net] || cell == NONE || nets.hasPin(cell)) {
            return NONE;
        }
        return chooser.moveLate(net, pin, cell);
    }

    public int netlist(int what) {
        if (what < 0 || what > 1) {
            return NONE;
        }
        checks.joinAll();
        return what == 0 ? checks.joinedPairs() : checks.openParts();
    }

    public int test(int layer) {
        return isLayer(layer) ? checks.reachable(layer) : NONE;
    }

    public boolean slow(int layer, int v) {
        if ((layer != NONE && !isLayer(layer)) || v < 0 || v > 99) {
            return false;
        }
        checks.slowness[layer + 1] = v;
        return true;
    }

    public int delay(int net) {
        return isNet(net) ? checks.delayOf(net) : NONE;
    }

    public int pair(int a, int b, int what) {
        if (!isNet(a) || !isNet(b) || a == b) {
            return HIDDEN;
        }
        switch (what) {
            case 0:
                return checks.cellsBeside(a, b);
            case 1:
                return checks.delayOf(a) - checks.delayOf(b);
            case 2:
                return trail.canFollow(a) ? trail.longestBeside(a, b) : HIDDEN;
            case 3:
                return checks.turnsAway(a, b);
            default:
                return HIDDEN;
        }
    }

    public int beside(int turns, int pressure, int what) {
        if (!arePressing(turns, pressure) || what < 0 || what > 5) {
            return NONE;
        }
        nets.saveTraces();
        int answer = what < 3 ? presser.orderFigure(what) : presser.pressFigure(turns, pressure, what);
        nets.restoreTraces();
        return answer;
    }

    public int why(int net) {
        return isNet(net) && nets.pinCounts[net] > 0 ? chooser.whyVias(net) : NONE;
    }

    public boolean steady() {
        nets.saveTraces();
        presser.layInOrder();
        boolean same = nets.isAsSaved();
        nets.restoreTraces();
        return same;
    }

    public int panel(int sheetWide, int sheetDeep, int between, int what) {
        if (sheetWide < 1 || sheetWide > MOST_SHEET || sheetDeep < 1 || sheetDeep > MOST_SHEET) {
            return NONE;
        }
        if (between < 0 || between > 9 || what < 0 || what > 3) {
            return NONE;
        }
        if (what >= 2) {
            return splitSheet(sheetWide, sheetDeep, between, what == 2);
        }
        int upright = fitting(sheetWide, grid.wide, between) * fitting(sheetDeep, grid.deep, between);
        int turned = fitting(sheetWide, grid.deep, between) * fitting(sheetDeep, grid.wide, between);
        if (what == 0) {
            return Math.max(upright, turned);
        }
        return turned > upright ? 1 : 0;
    }

    public boolean unwire(int net) {
        if (!isNet(net) || !nets.hasWires(net)) {
            return false;
        }
        nets.removeWires(net);
        return true;
    }

    public int count(int what) {
        switch (what) {
            case 0:
                return nets.sorts;
            case 1:
                return nets.amount;
            case 2:
                return tape.length;
            case 3:
                return grid.wide;
            case 4:
                return grid.deep;
            case 5:
                return grid.layers;
            default:
                return NONE;
        }
    }

    private static int within(int value, int least, int most) {
        return Math.max(least, Math.min(most, value));
    }

    private boolean isNet(int net) {
        return net >= 0 && net < nets.amount;
    }

    private boolean isLayer(int layer) {
        return layer >= 0 && layer < grid.layers;
    }

    private boolean areNets(int bits) {
        return bits != 0 && (bits & ~((1 << nets.amount) - 1)) == 0;
    }

    private static boolean arePressing(int turns, int pressure) {
        return turns >= 1 && turns <= MOST_TURNS && pressure >= 1 && pressure <= MOST_TURNS;
    }

    /** How many boards of one size stand in a row of a sheet; 0 if the room is less than nothing. */
    private static int fitting(int room, int size, int between) {
        int each = size + between;
        if (each <= 0 || room < size) {
            return 0;
        }
        return (room + between) / each;
    }

    private int splitSheet(int sheetWide, int sheetDeep, int between, boolean wantMost) {
        int uprightRows = fitting(sheetDeep, grid.deep, between);
        int turnedRows = fitting(sheetDeep, grid.wide, between);
        int columns = fitting(sheetWide, grid.wide, between);
        int most = NONE;
        int bestColumns = 0;
        for (int k = 0; k <= columns; k++) {
            int rest = sheetWide - k * (grid.wide + between);
            int boards = k * uprightRows + fitting(rest, grid.deep, between) * turnedRows;
            if (boards > most) {
                most = boards;
                bestColumns = k;
            }
        }
        return wantMost ? most : bestColumns;
    }

    /** The cells of the board and which cell each move leads to. */
    private static final class Grid {
        final int wide;
        final int deep;
        final int layers;
        final int floor;
        final int cells;
        final int[] next;
        final int[] xOf;
        final int[] yOf;
        final int[] layerOf;

        Grid(int wide, int deep, int layers) {
            this.wide = wide;
            this.deep = deep;
            this.layers = layers;
            floor = wide * deep;
            cells = floor * layers;
            next = new int[cells * MOVES];
            xOf = new int[cells];
            yOf = new int[cells];
            layerOf = new int[cells];
            int cell = 0;
            for (int layer = 0; layer < layers; layer++) {
                for (int y = 0; y < deep; y++) {
                    for (int x = 0; x < wide; x++) {
                        xOf[cell] = x;
                        yOf[cell] = y;
                        layerOf[cell] = layer;
                        next[cell * MOVES] = y > 0 ? cell - wide : NONE;
                        next[cell * MOVES + 1] = x + 1 < wide ? cell + 1 : NONE;
                        next[cell * MOVES + 2] = y + 1 < deep ? cell + wide : NONE;
                        next[cell * MOVES + 3] = x > 0 ? cell - 1 : NONE;
                        next[cell * MOVES + 4] = layer + 1 < layers ? cell + floor : NONE;
                        next[cell * MOVES + 5] = layer > 0 ? cell - floor : NONE;
                        cell++;
                    }
                }
            }
        }

        int cellAt(int x, int y, int layer) {
            if (x < 0 || x >= wide || y < 0 || y >= deep || layer < 0 || layer >= layers) {
                return NONE;
            }
            return layer * floor + y * wide + x;
        }

        int allLayers() {
            return (1 << layers) - 1;
        }
    }

    /** Bytes that wait to become a class, and the reader of such texts. */
    private static final class Tape {
        private static final char[] LETTERS = {'s', 'v', 'b', 'c', 'l'};
        private static final int[] LEAST = {1, 0, 0, 0};
        private static final int[] MOST = {9, 99, 99, 2};
        private static final int[] USUAL = {1, 5, 0, 0};

        final int layers;
        final int[] bytes = new int[MOST_BYTES];
        final int[] found = new int[SETTINGS];
        int length;
        private int at;
        private int seen;

        Tape(int layers) {
            this.layers = layers;
        }

        static int bytesIn(int word) {
            int many = 0;
            for (int shift = 24; shift >= 0; shift -= 8) {
                if ((word >>> shift & 255) != 0) {
                    many++;
                }
            }
            return many;
        }

        void take(int word) {
            for (int shift = 24; shift >= 0; shift -= 8) {
                int value = word >>> shift & 255;
                if (value != 0 && length < MOST_BYTES) {
                    bytes[length] = value;
                    length++;
                }
            }
        }

        /** The place of the first fault or NONE; the settings are in found then. */
        int scan() {
            at = 0;
            seen = 0;
            for (int i = 0; i < LAYERS; i++) {
                found[i] = USUAL[i];
            }
            found[LAYERS] = (1 << layers) - 1;
            for (int n = 0; n <= SETTINGS; n++) {
                if (!readSetting()) {
                    return at;
                }
                skipBlanks();
                if (at >= length) {
                    return NONE;
                }
                if (bytes[at] != ',') {
                    return at;
                }
                at++;
            }
            return at;
        }

        private boolean readSetting() {
            skipBlanks();
            int kind = kindHere();
            if (kind == NONE || (seen >> kind & 1) != 0) {
                return false;
            }
            seen |= 1 << kind;
            at++;
            skipBlanks();
            return kind == LAYERS ? readLayers() : readNumber(kind);
        }

        private int kindHere() {
            if (at < length) {
                for (int kind = 0; kind < SETTINGS; kind++) {
                    if (bytes[at] == LETTERS[kind]) {
                        return kind;
                    }
                }
            }
            return NONE;
        }

        private int digitHere() {
            if (at >= length || bytes[at] < '0' || bytes[at] > '9') {
                return NONE;
            }
            return bytes[at] - '0';
        }

        private void skipBlanks() {
            while (at < length && bytes[at] == ' ') {
                at++;
            }
        }

        private boolean readNumber(int kind) {
            int value = digitHere();
            if (value == NONE) {
                return false;
            }
            at++;
            int second = digitHere();
            if (second != NONE) {
                value = value * 10 + second;
                at++;
            }
            if (value < LEAST[kind] || value > MOST[kind]) {
                // Told as wrong at its last digit, which lies behind us already.
                at--;
                return false;
            }
            found[kind] = value;
            return second == NONE || digitHere() == NONE;
        }

        private boolean readLayers() {
            int bits = 0;
            for (int n = 0; n < MOST_BYTES; n++) {
                int layer = digitHere();
                if (layer == NONE) {
                    break;
                }
                if (layer >= layers || (bits >> layer & 1) != 0) {
                    return false;
                }
                bits |= 1 << layer;
                at++;
                skipBlanks();
            }
            found[LAYERS] = bits;
            return bits != 0;
        }
    }

    /** All that was told of classes, nets and keepouts, and all copper. */
    private static final class Nets {
        final Grid grid;
        final int[] settings = new int[MOST_SORTS * SETTINGS];
        final int[] sortOf = new int[MOST_NETS];
        final int[] ranks = new int[MOST_NETS];
        final int[] pinCounts = new int[MOST_NETS];
        final int[] pinCells = new int[MOST_NETS * MOST_PINS];
        /** Keepouts: 1 in the cells that are closed. */
        final int[] closed;
        /** Nets with pins or wires in each cell, and nets with traces there, as bits. */
        final int[] solid;
        final int[] traced;
        /** Moves of wires and of traces by net and cell, as bits, told at both ends of each move. */
        final int[] wires;
        final int[] traces;
        final int[] savedTraced;
        final int[] savedTraces;
        int sorts;
        int amount;

        Nets(Grid grid) {
            this.grid = grid;
            closed = new int[grid.cells];
            solid = new int[grid.cells];
            traced = new int[grid.cells];
            wires = new int[grid.cells * MOST_NETS];
            traces = new int[grid.cells * MOST_NETS];
            savedTraced = new int[grid.cells];
            savedTraces = new int[grid.cells * MOST_NETS];
        }

        int addSort(int[] found) {
            System.arraycopy(found, 0, settings, sorts * SETTINGS, SETTINGS);
            sorts++;
            return sorts - 1;
        }

        int addNet(int sort) {
            sortOf[amount] = sort;
            amount++;
            return amount - 1;
        }

        int setting(int net, int what) {
            return settings[sortOf[net] * SETTINGS + what];
        }

        boolean hasPin(int cell) {
            for (int net = 0; net < amount; net++) {
                for (int pin = 0; pin < pinCounts[net]; pin++) {
                    if (pinCell(net, pin) == cell) {
                        return true;
                    }
                }
            }
            return false;
        }

        int pinCell(int net, int pin) {
            return pinCells[net * MOST_PINS + pin];
        }

        int addPin(int net, int cell) {
            int pin = pinCounts[net];
            pinCells[net * MOST_PINS + pin] = cell;
            pinCounts[net]++;
            solid[cell] |= 1 << net;
            return pin;
        }

        void movePin(int net, int pin, int cell) {
            pinCells[net * MOST_PINS + pin] = cell;
            settle(net);
        }

        void close(int x, int y, int x2, int y2, int layer) {
            for (int row = y; row <= y2; row++) {
                for (int column = x; column <= x2; column++) {
                    closed[layer * grid.floor + row * grid.wide + column] = 1;
                }
            }
        }

        void addWire(int net, int from, int move, int many) {
            int cell = from;
            for (int n = 0; n < many && cell != NONE; n++) {
                cell = join(wires, solid, net, cell, move);
            }
        }

        int addTrace(int net, int cell, int move) {
            return join(traces, traced, net, cell, move);
        }

        private int join(int[] moves, int[] bits, int net, int cell, int move) {
            int to = grid.next[cell * MOVES + move];
            if (to == NONE) {
                return NONE;
            }
            moves[net * grid.cells + cell] |= 1 << move;
            moves[net * grid.cells + to] |= 1 << OPPOSITE[move];
            bits[cell] |= 1 << net;
            bits[to] |= 1 << net;
            return to;
        }

        /** The ends of the move keep their bit of copper: the caller leads other moves to both. */
        void dropTrace(int net, int cell, int move) {
            int to = grid.next[cell * MOVES + move];
            if (to != NONE) {
                traces[net * grid.cells + cell] &= ~(1 << move);
                traces[net * grid.cells + to] &= ~(1 << OPPOSITE[move]);
            }
        }

        void removeTraces(int net) {
            Arrays.fill(traces, net * grid.cells, (net + 1) * grid.cells, 0);
            for (int cell = 0; cell < grid.cells; cell++) {
                traced[cell] &= ~(1 << net);
            }
        }

        void removeAllTraces() {
            Arrays.fill(traces, 0);
            Arrays.fill(traced, 0);
        }

        void removeWires(int net) {
            Arrays.fill(wires, net * grid.cells, (net + 1) * grid.cells, 0);
            settle(net);
        }

        private void settle(int net) {
            for (int cell = 0; cell < grid.cells; cell++) {
                if (wires[net * grid.cells + cell] != 0) {
                    solid[cell] |= 1 << net;
                } else {
                    solid[cell] &= ~(1 << net);
                }
            }
            for (int pin = 0; pin < pinCounts[net]; pin++) {
                solid[pinCell(net, pin)] |= 1 << net;
            }
        }

        boolean hasTraces(int net) {
            return anyMove(traces, net, (1 << MOVES) - 1);
        }

        boolean hasWires(int net) {
            return anyMove(wires, net, (1 << MOVES) - 1);
        }

        boolean hasHoles(int net) {
            return anyMove(wires, net, 1 << BELOW);
        }

        private boolean anyMove(int[] moves, int net, int wanted) {
            for (int cell = 0; cell < grid.cells; cell++) {
                if ((moves[net * grid.cells + cell] & wanted) != 0) {
                    return true;
                }
            }
            return false;
        }

        int copperAt(int cell) {
            return solid[cell] | traced[cell];
        }

        int movesAt(int net, int cell) {
            return wires[net * grid.cells + cell] | traces[net * grid.cells + cell];
        }

        int lengthOf(int net) {
            int many = 0;
            for (int cell = 0; cell < grid.cells; cell++) {
                // East and south alone, so that each step counts at one of its ends.
                many += Integer.bitCount(traces[net * grid.cells + cell] & 6);
            }
            return many;
        }

        int viasOf(int net) {
            int many = 0;
            for (int cell = 0; cell < grid.cells; cell++) {
                many += traces[net * grid.cells + cell] >> BELOW & 1;
            }
            return many;
        }

        int cellsOf(int net) {
            int many = 0;
            for (int cell = 0; cell < grid.cells; cell++) {
                many += copperAt(cell) >> net & 1;
            }
            return many;
        }

        void saveTraces() {
            System.arraycopy(traces, 0, savedTraces, 0, traces.length);
            System.arraycopy(traced, 0, savedTraced, 0, traced.length);
        }

        void restoreTraces() {
            System.arraycopy(savedTraces, 0, traces, 0, traces.length);
            System.arraycopy(savedTraced, 0, traced, 0, traced.length);
        }

        boolean isAsSaved() {
            for (int i = 0; i < traces.length; i++) {
                if (traces[i] != savedTraces[i]) {
                    return false;
                }
            }
            return true;
        }
    }

    /** Which cells are free for one net, and where moves through these lead. */
    private static final class Room {
        final Grid grid;
        final Nets nets;
        /** Other nets whose pins and wires, and whose traces, lie too near to a cell, as bits. */
        final int[] hard;
        final int[] soft;
        final int[] own;
        final int[] free;
        final int[] reached;
        final int[] queue;
        /** Other nets by the distance that is to be kept from them, as bits. */
        private final int[] apart = new int[3];
        private int looking;

        Room(Grid grid, Nets nets) {
            this.grid = grid;
            this.nets = nets;
            hard = new int[grid.cells];
            soft = new int[grid.cells];
            own = new int[grid.cells];
            free = new int[grid.cells];
            reached = new int[grid.cells];
            queue = new int[grid.cells];
        }

        /** Looks at the board for one net; withTraces tells whether its own traces count as its copper. */
        void look(int net, boolean withTraces) {
            looking = net;
            Arrays.fill(hard, 0);
            Arrays.fill(soft, 0);
            partOthers(net);
            int others = ~(1 << net);
            for (int cell = 0; cell < grid.cells; cell++) {
                int mine = withTraces ? nets.copperAt(cell) : nets.solid[cell];
                own[cell] = mine >> net & 1;
                int firm = nets.solid[cell] & others;
                int loose = nets.traced[cell] & others;
                if ((firm | loose) != 0) {
                    spreadAll(cell, firm, loose);
                }
            }
        }

        private void partOthers(int net) {
            Arrays.fill(apart, 0);
            int clear = nets.setting(net, CLEAR);
            for (int other = 0; other < nets.amount; other++) {
                if (other != net) {
                    apart[Math.max(clear, nets.setting(other, CLEAR))] |= 1 << other;
                }
            }
        }

        private void spreadAll(int cell, int firm, int loose) {
            for (int far = 0; far < apart.length; far++) {
                if (((firm | loose) & apart[far]) != 0) {
                    spread(cell, far, firm & apart[far], loose & apart[far]);
                }
            }
        }

        private void spread(int cell, int far, int firm, int loose) {
            int left = Math.max(0, grid.xOf[cell] - far);
            int right = Math.min(grid.wide - 1, grid.xOf[cell] + far);
            int bottom = Math.min(grid.deep - 1, grid.yOf[cell] + far);
            for (int y = Math.max(0, grid.yOf[cell] - far); y <= bottom; y++) {
                int row = grid.layerOf[cell] * grid.floor + y * grid.wide;
                for (int x = left; x <= right; x++) {
                    hard[row + x] |= firm;
                    soft[row + x] |= loose;
                }
            }
        }

        /** Marks the free cells, as if the traces of the nets in gone were not there. */
        void mark(int gone) {
            int layers = nets.setting(looking, LAYERS);
            for (int cell = 0; cell < grid.cells; cell++) {
                boolean fits = (layers >> grid.layerOf[cell] & 1) != 0 && isClear(cell, gone);
                free[cell] = own[cell] != 0 || fits ? 1 : 0;
            }
        }

        /** Marks the free cells of one layer alone, as if the class had that layer. */
        void markPlane(int layer) {
            for (int cell = 0; cell < grid.cells; cell++) {
                boolean fits = own[cell] != 0 || isClear(cell, 0);
                free[cell] = fits && grid.layerOf[cell] == layer ? 1 : 0;
            }
        }

        private boolean isClear(int cell, int gone) {
            return nets.closed[cell] == 0 && hard[cell] == 0 && (soft[cell] & ~gone) == 0;
        }

        /** Marks what can be reached from a cell through free ones by the first so many moves. */
        int flood(int from, int moves) {
            Arrays.fill(reached, 0);
            return floodMore(from, moves);
        }

        int floodMore(int from, int moves) {
            reached[from] = 1;
            queue[0] = from;
            int many = 1;
            for (int i = 0; i < many && i < grid.cells; i++) {
                for (int move = 0; move < moves; move++) {
                    int to = grid.next[queue[i] * MOVES + move];
                    if (to != NONE && free[to] != 0 && reached[to] == 0) {
                        reached[to] = 1;
                        queue[many] = to;
                        many++;
                    }
                }
            }
            return many;
        }

        int lowestUnreachedPin(int net) {
            for (int pin = 0; pin < nets.pinCounts[net]; pin++) {
                if (reached[nets.pinCell(net, pin)] == 0) {
                    return pin;
                }
            }
            return NONE;
        }

        boolean joinsAllPins(int net, int moves) {
            flood(nets.pinCell(net, 0), moves);
            return lowestUnreachedPin(net) == NONE;
        }
    }

    /** Lays one net: the cheapest rows of moves, found from the goal backwards. */
    private static final class Router {
        private static final int FAR = ENDLESS;
        /** A key is a cost and, below it, the number of moves; more of these than cells never come. */
        private static final int KEY_BITS = 11;
        private static final int MOST_LANES = 5;
        private static final int WAITS_NOT = -1;

        final Grid grid;
        final Nets nets;
        final Room room;
        /** What a move to a cell costs more. */
        final int[] extra;
        private final int[] joined;
        private final int[] queue;
        /** Keys by state: a cell and the direction of the latest step (the last lane: none yet). */
        private final int[] best;
        private final int[] heap;
        private final int[] place;
        private int waiting;
        private int lanes;
        private int moves;
        private int stepKey;
        private int viaKey;
        private int bendKey;

        Router(Grid grid, Nets nets, Room room) {
            this.grid = grid;
            this.nets = nets;
            this.room = room;
            extra = new int[grid.cells];
            joined = new int[grid.cells];
            queue = new int[grid.cells];
            best = new int[grid.cells * MOST_LANES];
            heap = new int[grid.cells * MOST_LANES];
            place = new int[grid.cells * MOST_LANES];
        }

        int layNet(int net) {
            if (nets.pinCounts[net] == 0) {
                return NONE;
            }
            room.look(net, false);
            room.mark(0);
            // Looked at first, so that the old traces need not come back.
            if (!room.joinsAllPins(net, MOVES)) {
                return NONE;
            }
            nets.removeTraces(net);
            return layRows(net, true);
        }

        int tryCost(int net, boolean vias) {
            if (nets.pinCounts[net] == 0) {
                return NONE;
            }
            room.look(net, false);
            room.mark(0);
            nets.saveTraces();
            nets.removeTraces(net);
            int price = layRows(net, vias);
            nets.restoreTraces();
            return price;
        }

        /** Lays the rows through the cells that the room marked; NONE with some rows laid if a pin can't. */
        int layRows(int net, boolean vias) {
            int bend = nets.setting(net, BEND);
            lanes = bend == 0 ? 1 : MOST_LANES;
            moves = vias ? MOVES : STEPS;
            stepKey = (nets.setting(net, STEP) << KEY_BITS) + 1;
            viaKey = (nets.setting(net, VIA) << KEY_BITS) + 1;
            bendKey = bend << KEY_BITS;
            int price = 0;
            markJoined(net);
            for (int pin = 1; pin < nets.pinCounts[net]; pin++) {
                int cell = nets.pinCell(net, pin);
                if (joined[cell] == 0) {
                    if (!search(cell)) {
                        return NONE;
                    }
                    price += best[cell * lanes + lanes - 1] >> KEY_BITS;
                    walk(net, cell);
                    markJoined(net);
                }
            }
            return price;
        }

        private void markJoined(int net) {
            Arrays.fill(joined, 0);
            queue[0] = nets.pinCell(net, 0);
            joined[queue[0]] = 1;
            int many = 1;
            for (int i = 0; i < many && i < grid.cells; i++) {
                int ways = nets.movesAt(net, queue[i]);
                for (int move = 0; move < MOVES; move++) {
                    int to = grid.next[queue[i] * MOVES + move];
                    if ((ways >> move & 1) != 0 && to != NONE && joined[to] == 0) {
                        joined[to] = 1;
                        queue[many] = to;
                        many++;
                    }
                }
            }
        }

        /** Finds the keys of all states that are not dearer than the pin's own; false if it can't. */
        private boolean search(int pinCell) {
            int states = grid.cells * lanes;
            Arrays.fill(best, 0, states, FAR);
            Arrays.fill(place, 0, states, WAITS_NOT);
            waiting = 0;
            for (int cell = 0; cell < grid.cells; cell++) {
                for (int lane = 0; joined[cell] != 0 && lane < lanes; lane++) {
                    offer(cell * lanes + lane, 0);
                }
            }
            int wanted = pinCell * lanes + lanes - 1;
            for (int n = 0; n < states && waiting > 0; n++) {
                int state = takeLeast();
                if (state == wanted) {
                    return true;
                }
                comeFrom(state);
            }
            return false;
        }

        /** Offers the states from which one move leads to this one. */
        private void comeFrom(int state) {
            int cell = lanes == 1 ? state : state / MOST_LANES;
            int lane = state - cell * lanes;
            int key = best[state] + (extra[cell] << KEY_BITS);
            for (int move = 0; move < moves; move++) {
                int from = grid.next[cell * MOVES + OPPOSITE[move]];
                if (from == NONE || room.free[from] == 0) {
                    continue;
                }
                if (move >= STEPS) {
                    offer(from * lanes + lane, key + viaKey);
                } else if (lanes == 1) {
                    offer(from, key + stepKey);
                } else if (move == lane) {
                    for (int before = 0; before < MOST_LANES; before++) {
                        offer(from * MOST_LANES + before, key + stepKey + bendFrom(before, move));
                    }
                }
            }
        }

        private int bendFrom(int lane, int move) {
            return lane == MOST_LANES - 1 || lane == move ? 0 : bendKey;
        }

        private void offer(int state, int key) {
            if (key >= best[state]) {
                return;
            }
            best[state] = key;
            int hole = place[state];
            if (hole == WAITS_NOT) {
                hole = waiting;
                waiting++;
            }
            while (hole > 0 && best[heap[(hole - 1) >> 1]] > key) {
                heap[hole] = heap[(hole - 1) >> 1];
                place[heap[hole]] = hole;
                hole = (hole - 1) >> 1;
            }
            heap[hole] = state;
            place[state] = hole;
        }

        private int takeLeast() {
            int least = heap[0];
            waiting--;
            int moved = heap[waiting];
            int hole = 0;
            int child = 1;
            while (child < waiting) {
                if (child + 1 < waiting && best[heap[child + 1]] < best[heap[child]]) {
                    child++;
                }
                if (best[heap[child]] >= best[moved]) {
                    break;
                }
                heap[hole] = heap[child];
                place[heap[hole]] = hole;
                hole = child;
                child = 2 * hole + 1;
            }
            heap[hole] = moved;
            place[moved] = hole;
            place[least] = WAITS_NOT;
            return least;
        }

        /** Lays the row of the pin: at each cell the first move that loses nothing. */
        private void walk(int net, int pinCell) {
            int cell = pinCell;
            int lane = lanes - 1;
            for (int n = 0; n < grid.cells && joined[cell] == 0; n++) {
                int move = firstMove(cell, lane);
                if (move == NONE) {
                    return;
                }
                lane = laneBehind(lane, move);
                cell = nets.addTrace(net, cell, move);
                if (cell == NONE) {
                    return;
                }
            }
        }

        private int laneBehind(int lane, int move) {
            return lanes == 1 || move >= STEPS ? lane : move;
        }

        private int firstMove(int cell, int lane) {
            int key = best[cell * lanes + lane];
            for (int move = 0; move < moves; move++) {
                int to = grid.next[cell * MOVES + move];
                if (to == NONE || room.free[to] == 0) {
                    continue;
                }
                int rest = best[to * lanes + laneBehind(lane, move)];
                int spent = move >= STEPS ? viaKey : stepKey + (lanes == 1 ? 0 : bendFrom(lane, move));
                if (rest != FAR && rest + spent + (extra[to] << KEY_BITS) == key) {
                    return move;
                }
            }
            return NONE;
        }
    }

    /** Lays all nets: in an order, or by pressing one another turn by turn. */
    private static final class Presser {
        final Grid grid;
        final Nets nets;
        final Room room;
        final Router router;
        private final int[] heat;
        private final int[] crowded;

        Presser(Grid grid, Nets nets, Room room, Router router) {
            this.grid = grid;
            this.nets = nets;
            this.room = room;
            this.router = router;
            heat = new int[grid.cells];
            crowded = new int[grid.cells];
        }

        /** Answers the nets that can't be laid, as bits. */
        int layInOrder() {
            nets.removeAllTraces();
            int failed = 0;
            for (int rank = 0; rank <= MOST_RANK; rank++) {
                for (int net = 0; net < nets.amount; net++) {
                    if (nets.ranks[net] == rank && nets.pinCounts[net] > 0 && router.layNet(net) == NONE) {
                        failed |= 1 << net;
                    }
                }
            }
            return failed;
        }

        /** Behind how many turns it ended well; if NONE, the traces are left as they fell. */
        int pressAll(int turns, int pressure) {
            nets.removeAllTraces();
            Arrays.fill(heat, 0);
            for (int turn = 1; turn <= turns; turn++) {
                if (!layTurn(pressure)) {
                    return NONE;
                }
                if (!warmCrowded()) {
                    return turn;
                }
            }
            return NONE;
        }

        private boolean layTurn(int pressure) {
            boolean laid = true;
            for (int net = 0; net < nets.amount && laid; net++) {
                if (nets.pinCounts[net] > 0) {
                    nets.removeTraces(net);
                    room.look(net, false);
                    room.mark(ALL_NETS);
                    for (int cell = 0; cell < grid.cells; cell++) {
                        router.extra[cell] = pressure * Integer.bitCount(room.soft[cell]) + heat[cell];
                    }
                    laid = router.layRows(net, true) != NONE;
                }
            }
            Arrays.fill(router.extra, 0);
            return laid;
        }

        /** Warms each cell with a trace too near to another net's; false if there is none. */
        private boolean warmCrowded() {
            Arrays.fill(crowded, 0);
            boolean any = false;
            for (int net = 0; net < nets.amount; net++) {
                room.look(net, false);
                for (int cell = 0; cell < grid.cells; cell++) {
                    if ((nets.traced[cell] >> net & 1) != 0 && room.soft[cell] != 0) {
                        crowded[cell] = 1;
                        any = true;
                    }
                }
            }
            for (int cell = 0; cell < grid.cells; cell++) {
                heat[cell] += crowded[cell];
            }
            return any;
        }

        int orderFigure(int what) {
            int failed = layInOrder();
            return what == 0 ? withPins() - Integer.bitCount(failed) : wholeFigure(what == 1);
        }

        int pressFigure(int turns, int pressure, int what) {
            boolean well = pressAll(turns, pressure) != NONE;
            if (what == 3) {
                return well ? 1 : 0;
            }
            return well ? wholeFigure(what == 4) : NONE;
        }

        private int withPins() {
            int many = 0;
            for (int net = 0; net < nets.amount; net++) {
                if (nets.pinCounts[net] > 0) {
                    many++;
                }
            }
            return many;
        }

        private int wholeFigure(boolean length) {
            int sum = 0;
            for (int net = 0; net < nets.amount; net++) {
                sum += length ? nets.lengthOf(net) : nets.viasOf(net);
            }
            return sum;
        }
    }

    /** What stands in a net's way, and the fewest nets to be taken away for it. */
    private static final class Chooser {
        private static final int MOST_LATE = 3;

        final Grid grid;
        final Nets nets;
        final Room room;
        final Router router;

        Chooser(Grid grid, Nets nets, Room room, Router router) {
            this.grid = grid;
            this.nets = nets;
            this.room = room;
            this.router = router;
        }

        int cutOf(int net, int what) {
            room.look(net, false);
            room.mark(0);
            int many = room.flood(nets.pinCell(net, 0), MOVES);
            if (what == 0) {
                return many;
            }
            if (what == 1) {
                return room.lowestUnreachedPin(net);
            }
            int wall = 0;
            int barring = 0;
            for (int cell = 0; cell < grid.cells; cell++) {
                if (isWall(cell)) {
                    wall++;
                    boolean told = (nets.setting(net, LAYERS) >> grid.layerOf[cell] & 1) != 0;
                    barring |= told && nets.closed[cell] == 0 ? room.hard[cell] | room.soft[cell] : 0;
                }
            }
            return what == 2 ? wall : barring;
        }

        private boolean isWall(int cell) {
            if (room.reached[cell] != 0) {
                return false;
            }
            for (int move = 0; move < MOVES; move++) {
                int to = grid.next[cell * MOVES + move];
                if (to != NONE && room.reached[to] != 0) {
                    return true;
                }
            }
            return false;
        }

        /** The i-th set if it has so many nets, all of others; of one size those with lower nets come as i falls. */
        private static int setAt(int i, int size, int others) {
            if (Integer.bitCount(i) != size) {
                return NONE;
            }
            int set = 0;
            for (int net = 0; net < MOST_NETS; net++) {
                set |= (i >> (MOST_NETS - 1 - net) & 1) << net;
            }
            return (set & ~others) == 0 ? set : NONE;
        }

        private int othersWithTraces(int net) {
            int bits = 0;
            for (int cell = 0; cell < grid.cells; cell++) {
                bits |= nets.traced[cell];
            }
            return bits & ~(1 << net);
        }

        /** The fewest other nets without whose traces rows of the first so many moves join the pins. */
        int fewestBars(int net, int moves) {
            room.look(net, false);
            room.mark(ALL_NETS);
            if (!room.joinsAllPins(net, moves)) {
                return NONE;
            }
            int others = othersWithTraces(net);
            for (int size = 0; size <= Integer.bitCount(others); size++) {
                for (int i = ALL_NETS; i >= 0; i--) {
                    int gone = setAt(i, size, others);
                    if (gone != NONE && joinsWithout(net, gone, moves)) {
                        return gone;
                    }
                }
            }
            return NONE;
        }

        private boolean joinsWithout(int net, int gone, int moves) {
            room.mark(gone);
            return room.joinsAllPins(net, moves);
        }

        int whyVias(int net) {
            // Holes laid by hand lead from layer to layer without a via of a row: then rows must be tried.
            return nets.hasHoles(net) ? fewestByRows(net) : fewestBars(net, STEPS);
        }

        private int fewestByRows(int net) {
            if (fewestBars(net, MOVES) == NONE) {
                return NONE;
            }
            int others = othersWithTraces(net);
            int answer = NONE;
            nets.saveTraces();
            for (int size = 0; size <= Integer.bitCount(others) && answer == NONE; size++) {
                for (int i = ALL_NETS; i >= 0 && answer == NONE; i--) {
                    int gone = setAt(i, size, others);
                    if (gone != NONE && layFlat(net, gone)) {
                        answer = gone;
                    }
                }
            }
            nets.restoreTraces();
            return answer;
        }

        private boolean layFlat(int net, int gone) {
            nets.removeTraces(net);
            room.mark(gone);
            return room.joinsAllPins(net, MOVES) && router.layRows(net, false) != NONE;
        }

        int moveLate(int net, int pin, int cell) {
            int before = nets.pinCell(net, pin);
            nets.saveTraces();
            nets.movePin(net, pin, cell);
            int others = (1 << nets.amount) - 1 & ~(1 << net);
            for (int size = 0; size <= MOST_LATE; size++) {
                for (int i = ALL_NETS; i >= 0; i--) {
                    int gone = setAt(i, size, others);
                    if (gone != NONE && layWith(net, gone)) {
                        return gone;
                    }
                }
            }
            nets.restoreTraces();
            nets.movePin(net, pin, before);
            return NONE;
        }

        private boolean layWith(int net, int gone) {
            nets.restoreTraces();
            nets.removeTraces(net);
            for (int other = 0; other < nets.amount; other++) {
                if ((gone >> other & 1) != 0) {
                    nets.removeTraces(other);
                }
            }
            boolean laid = router.layNet(net) != NONE;
            for (int other = 0; other < nets.amount && laid; other++) {
                if ((gone >> other & 1) != 0) {
                    laid = router.layNet(other) != NONE;
                }
            }
            return laid;
        }
    }

    /** Tries small boards wholly: cells are bits, a way is a set of cells. */
    private static final class Trial {
        private static final int MOST_CELLS = 24;
        private static final int MOST_WAYS = 3;
        private static final int MOST_DEPTH = 40;

        final Grid grid;
        final Nets nets;
        final Room room;
        private final int[] chosen = new int[MOST_WAYS];
        private final int[] base = new int[MOST_WAYS];
        private final int[] ways = new int[MOST_WAYS];
        private int amount;
        private int notFirstColumn;
        private int notLastColumn;
        private int notFirstRow;
        private int notLastRow;

        Trial(Grid grid, Nets nets, Room room) {
            this.grid = grid;
            this.nets = nets;
            this.room = room;
            for (int cell = 0; cell < grid.cells && cell < MOST_CELLS; cell++) {
                int bit = 1 << cell;
                notFirstColumn |= grid.xOf[cell] > 0 ? bit : 0;
                notLastColumn |= grid.xOf[cell] < grid.wide - 1 ? bit : 0;
                notFirstRow |= grid.yOf[cell] > 0 ? bit : 0;
                notLastRow |= grid.yOf[cell] < grid.deep - 1 ? bit : 0;
            }
        }

        int tryWholly(int set) {
            if (grid.cells > MOST_CELLS || Integer.bitCount(set) > MOST_WAYS) {
                return NONE;
            }
            amount = 0;
            for (int net = 0; net < nets.amount; net++) {
                if ((set >> net & 1) != 0) {
                    if (nets.pinCounts[net] != 2 || nets.hasWires(net)) {
                        return NONE;
                    }
                    chosen[amount] = net;
                    base[amount] = openCells(net, set);
                    amount++;
                }
            }
            return laterCanJoin(0, 0) && findWays(0, 0) ? 1 : 0;
        }

        private int openCells(int net, int set) {
            room.look(net, false);
            room.mark(set);
            int bits = 0;
            for (int cell = 0; cell < grid.cells; cell++) {
                bits |= room.free[cell] << cell;
            }
            return bits;
        }

        private boolean findWays(int level, int depth) {
            if (level >= amount - 1) {
                // The last one was seen to have a way when the one before it was found.
                return true;
            }
            int open = openAt(level, level);
            int start = 1 << nets.pinCell(chosen[level], 0);
            ways[level] = 0;
            return extend(level, start, open, depth + 1);
        }

        /** Goes on from a cell of a way whose cells, but for one behind another, are no neighbours. */
        private boolean extend(int level, int head, int open, int depth) {
            if (depth > MOST_DEPTH) {
                return false;
            }
            int way = ways[level];
            ways[level] = way | head;
            int target = 1 << nets.pinCell(chosen[level], 1);
            int near = oneMove(head);
            boolean found = false;
            if ((near & target) != 0) {
                ways[level] |= target;
                found = laterCanJoin(level + 1, level + 1) && findWays(level + 1, depth + 1);
            } else if (laterCanJoin(level + 1, level + 1)) {
                int rest = open & ~near & ~head;
                for (int cell = 0; cell < grid.cells && !found; cell++) {
                    int bit = 1 << cell;
                    if ((near & open & bit) != 0 && canReach(bit, target, rest | bit)) {
                        found = extend(level, bit, rest, depth + 1);
                    }
                }
            }
            ways[level] = way;
            return found;
        }

        /** Whether each way from a level on still has room beside the cells of the first so many ways. */
        private boolean laterCanJoin(int from, int laid) {
            for (int level = from; level < amount; level++) {
                int start = 1 << nets.pinCell(chosen[level], 0);
                int target = 1 << nets.pinCell(chosen[level], 1);
                if (!canReach(start, target, openAt(level, laid))) {
                    return false;
                }
            }
            return true;
        }

        private int openAt(int level, int laid) {
            int open = base[level];
            int clear = nets.setting(chosen[level], CLEAR);
            for (int other = 0; other < laid && other < amount; other++) {
                open &= ~widened(ways[other], Math.max(clear, nets.setting(chosen[other], CLEAR)));
            }
            int pins = 1 << nets.pinCell(chosen[level], 0) | 1 << nets.pinCell(chosen[level], 1);
            return open | pins;
        }

        private int widened(int cells, int far) {
            int wide = cells;
            for (int n = 0; n < far; n++) {
                wide |= (wide & notLastColumn) << 1 | (wide & notFirstColumn) >>> 1;
            }
            for (int n = 0; n < far; n++) {
                wide |= (wide & notLastRow) << grid.wide | (wide & notFirstRow) >>> grid.wide;
            }
            return wide;
        }

        private int oneMove(int cells) {
            int to = (cells & notLastColumn) << 1 | (cells & notFirstColumn) >>> 1;
            to |= (cells & notLastRow) << grid.wide | (cells & notFirstRow) >>> grid.wide;
            return to | cells << grid.floor | cells >>> grid.floor;
        }

        private boolean canReach(int start, int target, int open) {
            int reach = start;
            for (int n = 0; n < MOST_CELLS; n++) {
                int more = reach | oneMove(reach) & open;
                if ((more & target) != 0) {
                    return true;
                }
                if (more == reach) {
                    return false;
                }
                reach = more;
            }
            return false;
        }
    }

    /** Planes that fill a layer round other copper. */
    private static final class Planes {
        final Grid grid;
        final Nets nets;
        final Room room;
        private int parts;
        private int islands;

        Planes(Grid grid, Nets nets, Room room) {
            this.grid = grid;
            this.nets = nets;
            this.room = room;
        }

        int figure(int net, int layer, int what) {
            room.look(net, true);
            room.markPlane(layer);
            if (what == 0) {
                int many = 0;
                for (int cell = 0; cell < grid.cells; cell++) {
                    many += room.free[cell];
                }
                return many;
            }
            partPlane(layer);
            if (what == 1) {
                return parts;
            }
            return what == 2 ? islands : necks(layer);
        }

        private void partPlane(int layer) {
            parts = 0;
            islands = 0;
            Arrays.fill(room.reached, 0);
            for (int cell = layer * grid.floor; cell < (layer + 1) * grid.floor; cell++) {
                if (room.free[cell] != 0 && room.reached[cell] == 0) {
                    int many = room.floodMore(cell, STEPS);
                    if (hasOwn(many)) {
                        parts++;
                    } else {
                        islands++;
                    }
                }
            }
        }

        /** Whether own copper is among the cells that the latest flood went through. */
        private boolean hasOwn(int many) {
            for (int i = 0; i < many; i++) {
                if (room.own[room.queue[i]] != 0) {
                    return true;
                }
            }
            return false;
        }

        private int necks(int layer) {
            int whole = parts;
            int many = 0;
            for (int cell = layer * grid.floor; cell < (layer + 1) * grid.floor; cell++) {
                if (room.free[cell] != 0 && room.own[cell] == 0) {
                    room.free[cell] = 0;
                    partPlane(layer);
                    room.free[cell] = 1;
                    many += parts > whole ? 1 : 0;
                }
            }
            return many;
        }

        int spokesAt(int net, int cell) {
            room.look(net, true);
            room.markPlane(grid.layerOf[cell]);
            int many = 0;
            for (int move = 0; move < STEPS; move++) {
                int to = grid.next[cell * MOVES + move];
                many += to == NONE ? 0 : room.free[to];
            }
            return many;
        }

        /** Cells of a net's copper one layer away that have no cell of the other net's plane there. */
        int withoutReturn(int net, int of, int layer) {
            room.look(of, true);
            room.markPlane(layer);
            int many = 0;
            for (int cell = layer * grid.floor; cell < (layer + 1) * grid.floor; cell++) {
                for (int move = BELOW; move < MOVES; move++) {
                    int beside = grid.next[cell * MOVES + move];
                    if (beside != NONE && room.free[cell] == 0) {
                        many += nets.copperAt(beside) >> net & 1;
                    }
                }
            }
            return many;
        }
    }

    /** Copper held against the nets: shorts, opens, delays, neighbours. */
    private static final class Checks {
        final Grid grid;
        final Nets nets;
        /** Of vias first, then of the layers. */
        final int[] slowness;
        int shorts;
        int opens;
        private final int[] label;
        private final int[] queue;
        /** Nets of each part, as bits. */
        private final int[] netsIn;
        private int labels;

        Checks(Grid grid, Nets nets) {
            this.grid = grid;
            this.nets = nets;
            slowness = new int[grid.layers + 1];
            Arrays.fill(slowness, 1);
            slowness[0] = 0;
            label = new int[grid.cells];
            queue = new int[grid.cells];
            netsIn = new int[grid.cells];
        }

        /** Counts the shorts and opens of vias that wandered. */
        void shiftVias(int x, int y) {
            shorts = 0;
            opens = 0;
            for (int net = 0; net < nets.amount; net++) {
                for (int cell = 0; cell < grid.cells; cell++) {
                    if ((nets.movesAt(net, cell) >> BELOW & 1) != 0) {
                        int to = grid.cellAt(grid.xOf[cell] + x, grid.yOf[cell] + y, grid.layerOf[cell]);
                        judgeVia(net, to);
                    }
                }
            }
        }

        private void judgeVia(int net, int upper) {
            int lower = upper == NONE ? NONE : grid.next[upper * MOVES + BELOW];
            if (upper == NONE || lower == NONE) {
                opens++;
                return;
            }
            int first = nets.copperAt(upper);
            int second = nets.copperAt(lower);
            if (((first | second) & ~(1 << net)) != 0) {
                shorts++;
            }
            if ((first & second & 1 << net) == 0) {
                opens++;
            }
        }

        int worstShift(int most, int what) {
            int bestX = 0;
            int bestY = 0;
            int bestSum = NONE;
            for (int x = -most; x <= most; x++) {
                for (int y = -most; y <= most; y++) {
                    shiftVias(x, y);
                    if (shorts + opens > bestSum) {
                        bestSum = shorts + opens;
                        bestX = x;
                        bestY = y;
                    }
                }
            }
            return what == 0 ? bestX : what == 1 ? bestY : bestSum;
        }

        /** Parts the cells by the moves of all nets. */
        void joinAll() {
            Arrays.fill(label, NONE);
            labels = 0;
            for (int cell = 0; cell < grid.cells; cell++) {
                if (label[cell] == NONE && nets.copperAt(cell) != 0) {
                    netsIn[labels] = joinFrom(cell);
                    labels++;
                }
            }
        }

        private int joinFrom(int start) {
            label[start] = labels;
            queue[0] = start;
            int many = 1;
            int bits = 0;
            for (int i = 0; i < many && i < grid.cells; i++) {
                bits |= nets.copperAt(queue[i]);
                int ways = allMovesAt(queue[i]);
                for (int move = 0; move < MOVES; move++) {
                    int to = grid.next[queue[i] * MOVES + move];
                    if ((ways >> move & 1) != 0 && to != NONE && label[to] == NONE) {
                        label[to] = labels;
                        queue[many] = to;
                        many++;
                    }
                }
            }
            return bits;
        }

        private int allMovesAt(int cell) {
            int ways = 0;
            for (int net = 0; net < nets.amount; net++) {
                ways |= nets.movesAt(net, cell);
            }
            return ways;
        }

        int joinedPairs() {
            int many = 0;
            for (int a = 0; a < nets.amount; a++) {
                for (int b = a + 1; b < nets.amount; b++) {
                    many += areJoined(1 << a | 1 << b) ? 1 : 0;
                }
            }
            return many;
        }

        private boolean areJoined(int both) {
            for (int i = 0; i < labels; i++) {
                if ((netsIn[i] & both) == both) {
                    return true;
                }
            }
            return false;
        }

        int openParts() {
            int many = 0;
            for (int net = 0; net < nets.amount; net++) {
                for (int pin = 1; pin < nets.pinCounts[net]; pin++) {
                    many += isNewPart(net, pin) ? 1 : 0;
                }
            }
            return many;
        }

        private boolean isNewPart(int net, int pin) {
            for (int before = 0; before < pin; before++) {
                if (label[nets.pinCell(net, before)] == label[nets.pinCell(net, pin)]) {
                    return false;
                }
            }
            return true;
        }

        int reachable(int layer) {
            int bits = 0;
            for (int cell = layer * grid.floor; cell < (layer + 1) * grid.floor; cell++) {
                int here = nets.copperAt(cell);
                if (Integer.bitCount(here) == 1 && nets.closed[cell] == 0 && (copperBeside(cell) & ~here) == 0) {
                    bits |= here;
                }
            }
            return bits;
        }

        int copperBeside(int cell) {
            int bits = 0;
            for (int move = 0; move < STEPS; move++) {
                int to = grid.next[cell * MOVES + move];
                bits |= to == NONE ? 0 : nets.copperAt(to);
            }
            return bits;
        }

        int delayOf(int net) {
            int sum = 0;
            for (int cell = 0; cell < grid.cells; cell++) {
                int ways = nets.movesAt(net, cell);
                // East, south and below alone, so that each move counts at one of its ends.
                sum += Integer.bitCount(ways & 6) * slowness[grid.layerOf[cell] + 1];
                sum += (ways >> BELOW & 1) * slowness[0];
            }
            return sum;
        }

        private boolean isBeside(int a, int b, int cell) {
            return (nets.copperAt(cell) >> a & 1) != 0 && (copperBeside(cell) >> b & 1) != 0;
        }

        int cellsBeside(int a, int b) {
            int many = 0;
            for (int cell = 0; cell < grid.cells; cell++) {
                many += isBeside(a, b, cell) ? 1 : 0;
            }
            return many;
        }

        int turnsAway(int a, int b) {
            int many = 0;
            for (int cell = 0; cell < grid.cells; cell++) {
                for (int move = 1; move <= 2; move++) {
                    int to = grid.next[cell * MOVES + move];
                    boolean step = (nets.traces[a * grid.cells + cell] >> move & 1) != 0 && to != NONE;
                    many += step && isBeside(a, b, cell) != isBeside(a, b, to) ? 1 : 0;
                }
            }
            return many;
        }
    }

    /** Follows the trace of a net of two pins. */
    private static final class Trail {
        final Grid grid;
        final Nets nets;
        final Room room;
        private final int[] cells;
        /** The move from each cell of the trail to the one behind it. */
        private final int[] moveFrom;
        private int steps;

        Trail(Grid grid, Nets nets, Room room) {
            this.grid = grid;
            this.nets = nets;
            this.room = room;
            cells = new int[grid.cells + 1];
            moveFrom = new int[grid.cells + 1];
        }

        boolean canFollow(int net) {
            return nets.pinCounts[net] == 2 && !nets.hasWires(net) && nets.hasTraces(net);
        }

        private void follow(int net) {
            int cell = nets.pinCell(net, 1);
            int backwards = 0;
            steps = 0;
            cells[0] = cell;
            for (int n = 0; n < grid.cells; n++) {
                int ways = nets.traces[net * grid.cells + cell] & ~backwards;
                int move = 0;
                while (move < MOVES && (ways >> move & 1) == 0) {
                    move++;
                }
                if (move >= MOVES || grid.next[cell * MOVES + move] == NONE) {
                    return;
                }
                moveFrom[steps] = move;
                backwards = 1 << OPPOSITE[move];
                cell = grid.next[cell * MOVES + move];
                steps++;
                cells[steps] = cell;
            }
        }

        /** Makes the trace longer by bends, up to a length of so many; answers the length then. */
        int bendOut(int net, int limit) {
            room.look(net, true);
            room.mark(0);
            follow(net);
            int length = nets.lengthOf(net);
            for (int i = 0; i < steps; i++) {
                int move = moveFrom[i];
                // To the left of a direction stands the one before it in the row of directions.
                if (move < STEPS && length + 2 <= limit
                        && (goBeside(net, cells[i], move, (move + 3) & 3) || goBeside(net, cells[i], move, (move + 1) & 3))) {
                    length += 2;
                }
            }
            return length;
        }

        private boolean goBeside(int net, int cell, int move, int side) {
            int ahead = grid.next[cell * MOVES + move];
            int first = grid.next[cell * MOVES + side];
            if (ahead == NONE || first == NONE || !isOpen(net, first)) {
                return false;
            }
            int second = grid.next[ahead * MOVES + side];
            if (second == NONE || !isOpen(net, second)) {
                return false;
            }
            nets.dropTrace(net, cell, move);
            nets.addTrace(net, cell, side);
            nets.addTrace(net, first, move);
            nets.addTrace(net, ahead, side);
            return true;
        }

        private boolean isOpen(int net, int cell) {
            return room.free[cell] != 0 && (nets.copperAt(cell) >> net & 1) == 0;
        }

        /** The most cells one behind the other on the first net's trace that lie beside the second's copper. */
        int longestBeside(int a, int b) {
            follow(a);
            int most = 0;
            int row = 0;
            for (int i = 0; i <= steps; i++) {
                row = touches(cells[i], b) ? row + 1 : 0;
                most = Math.max(most, row);
            }
            return most;
        }

        private boolean touches(int cell, int net) {
            for (int move = 0; move < STEPS; move++) {
                int to = grid.next[cell * MOVES + move];
                if (to != NONE && (nets.copperAt(to) >> net & 1) != 0) {
                    return true;
                }
            }
            return false;
        }
    }
}
