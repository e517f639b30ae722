import java.util.ArrayList;
import java.util.HashSet;
import java.util.List;
import java.util.Random;
import java.util.Set;

/** TOGETHER on boards of up to 24 cells against all simple ways of each net, held against one another. */
public final class TogetherTest {
    private static final int[] DX = {0, 1, 0, -1, 0, 0};
    private static final int[] DY = {-1, 0, 1, 0, 0, 0};
    private static final int[] DL = {0, 0, 0, 0, 1, -1};
    private static final int[][] SHAPES = {{6, 4, 1}, {4, 3, 2}, {3, 2, 4}, {2, 3, 4}, {3, 3, 2}, {8, 3, 1}, {2, 6, 2},
        {5, 4, 1}, {2, 2, 4}, {3, 4, 2}, {4, 2, 3}, {2, 9, 1}};

    private final int wide;
    private final int deep;
    private final int layers;
    private final int[] clear = new int[3];
    private final int[][] pins = new int[3][2];
    private final boolean[] closed;

    private TogetherTest(int[] shape) {
        wide = shape[0];
        deep = shape[1];
        layers = shape[2];
        closed = new boolean[wide * deep * layers];
    }

    public static void main(String[] args) {
        int runs = args.length > 0 ? Integer.parseInt(args[0]) : 3000;
        int wrong = 0;
        int can = 0;
        for (int run = 0; run < runs; run++) {
            Random random = new Random(run * 31L + 5);
            TogetherTest test = new TogetherTest(SHAPES[run % SHAPES.length]);
            CopperBoard board = test.build(random);
            int got = board.together(7);
            int want = test.brute() ? 1 : 0;
            can += want;
            if (got != want) {
                wrong++;
                System.out.println("run " + run + ": together(7) answered " + got + ", due is " + want);
            }
        }
        if (can == 0 || can == runs) {
            wrong++;
            System.out.println("the runs try nothing: " + can);
        }
        System.out.println(wrong == 0 ? "together is as due" : wrong + " answers are not as due");
        if (wrong != 0) {
            System.exit(1);
        }
    }

    private CopperBoard build(Random random) {
        CopperBoard board = new CopperBoard(wide, deep, layers);
        Set<Integer> taken = new HashSet<>();
        for (int net = 0; net < 3; net++) {
            clear[net] = random.nextInt(5) == 0 ? 1 : 0;
            board.feed(0x63200000 | ('0' + clear[net]) << 8, 0, 0, 0, 0);
            board.net(board.sort());
            for (int p = 0; p < 2; p++) {
                int cell = random.nextInt(closed.length);
                while (!taken.add(cell)) {
                    cell = random.nextInt(closed.length);
                }
                pins[net][p] = cell;
                board.pin(net, x(cell), y(cell), layer(cell));
            }
        }
        for (int k = random.nextInt(closed.length / 3); k > 0; k--) {
            int cell = random.nextInt(closed.length);
            closed[cell] = true;
            board.keep(x(cell), y(cell), x(cell), y(cell), 1 << layer(cell));
        }
        return board;
    }

    private int x(int cell) {
        return cell % wide;
    }

    private int y(int cell) {
        return cell / wide % deep;
    }

    private int layer(int cell) {
        return cell / (wide * deep);
    }

    private boolean near(int a, int b, int far) {
        return layer(a) == layer(b) && Math.abs(x(a) - x(b)) <= far && Math.abs(y(a) - y(b)) <= far;
    }

    /** A cell may be used by a net if none of the others' pins is too near, or if it is its own pin. */
    private boolean usable(int net, int cell) {
        if (cell == pins[net][0] || cell == pins[net][1]) {
            return true;
        }
        boolean can = !closed[cell];
        for (int other = 0; other < 3; other++) {
            for (int p = 0; p < 2 && other != net; p++) {
                can &= !near(cell, pins[other][p], Math.max(clear[net], clear[other]));
            }
        }
        return can;
    }

    private void ways(int net, int cell, int used, Set<Integer> found) {
        if (cell == pins[net][1]) {
            found.add(used);
            return;
        }
        for (int m = 0; m < 6; m++) {
            int nx = x(cell) + DX[m];
            int ny = y(cell) + DY[m];
            int nl = layer(cell) + DL[m];
            if (nx < 0 || ny < 0 || nl < 0 || nx >= wide || ny >= deep || nl >= layers) {
                continue;
            }
            int to = nl * wide * deep + ny * wide + nx;
            if ((used >> to & 1) == 0 && usable(net, to)) {
                ways(net, to, used | 1 << to, found);
            }
        }
    }

    /** Of all simple ways those sets of cells that hold no smaller one. */
    private List<Integer> leastWays(int net) {
        Set<Integer> found = new HashSet<>();
        ways(net, pins[net][0], 1 << pins[net][0], found);
        List<Integer> row = new ArrayList<>(found);
        row.sort((a, b) -> Integer.bitCount(a) - Integer.bitCount(b));
        List<Integer> least = new ArrayList<>();
        for (int set : row) {
            boolean holds = false;
            for (int small : least) {
                holds |= (set & small) == small;
                if (holds) {
                    break;
                }
            }
            if (!holds) {
                least.add(set);
            }
        }
        return least;
    }

    /** Cells too near to a way for another net; two pins may be as near as they are. */
    private boolean apart(int a, int wayA, int b, int wayB) {
        int far = Math.max(clear[a], clear[b]);
        for (int i = 0; i < closed.length; i++) {
            for (int j = 0; j < closed.length && (wayA >> i & 1) != 0; j++) {
                boolean both = (i == pins[a][0] || i == pins[a][1]) && (j == pins[b][0] || j == pins[b][1]);
                if ((wayB >> j & 1) != 0 && !both && near(i, j, far)) {
                    return false;
                }
            }
        }
        return true;
    }

    private boolean brute() {
        List<Integer> first = leastWays(0);
        List<Integer> second = leastWays(1);
        List<Integer> third = leastWays(2);
        for (int a : first) {
            for (int b : second) {
                if ((a & b) != 0 || !apart(0, a, 1, b)) {
                    continue;
                }
                for (int c : third) {
                    if (((a | b) & c) == 0 && apart(0, a, 2, c) && apart(1, b, 2, c)) {
                        return true;
                    }
                }
            }
        }
        return false;
    }
}
