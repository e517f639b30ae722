import java.lang.reflect.InvocationTargetException;
import java.lang.reflect.Method;
import java.lang.reflect.Modifier;
import java.util.Arrays;
import java.util.NoSuchElementException;
import java.util.Random;

/** Every call with any arguments in any state: nothing is thrown but by told, and the same calls answer the same. */
public final class WildTest {
    private static final int[] EDGES = {Integer.MIN_VALUE, -1000, -4, -1, 0, 1, 2, 3, 4, 5, 8, 9, 20, 21, 99, 100, 200,
        201, 255, 256, 1 << 30, Integer.MAX_VALUE};

    public static void main(String[] args) throws Exception {
        Method[] calls = Arrays.stream(CopperBoard.class.getDeclaredMethods())
                .filter(m -> Modifier.isPublic(m.getModifiers()))
                .sorted((a, b) -> a.getName().compareTo(b.getName())).toArray(Method[]::new);
        int wrong = calls.length == 42 ? 0 : 1;
        for (int run = 0; run < 300 && wrong == 0; run++) {
            String first = play(calls, run);
            wrong += first.equals(play(calls, run)) && !first.contains("!") ? 0 : 1;
            if (wrong != 0) {
                System.out.println("run " + run + ": " + first);
            }
        }
        System.out.println(wrong == 0 ? "wild calls are as due" : "wild calls are not as due");
        if (wrong != 0) {
            System.exit(1);
        }
    }

    private static String play(Method[] calls, int run) throws Exception {
        Random random = new Random(run);
        CopperBoard board = new CopperBoard(pick(random), pick(random), pick(random));
        StringBuilder said = new StringBuilder();
        int[] texts = {0x73203100, 0x6c203000, 0x76203000, 0x63203200, 0x62203400, 0x63203100};
        for (int i = 0; i < run % 7; i++) {
            board.feed(texts[i], 0, 0, 0, 0);
            board.sort();
            board.net(i);
        }
        for (int n = 0; n < 450; n++) {
            Method call = calls[random.nextInt(calls.length)];
            Object[] given = new Object[call.getParameterCount()];
            for (int i = 0; i < given.length; i++) {
                given[i] = call.getParameterTypes()[i] == int.class ? (Object) pick(random) : random.nextBoolean();
            }
            try {
                said.append(call.invoke(board, given)).append(' ');
            } catch (InvocationTargetException e) {
                boolean due = call.getName().equals("told") && e.getCause() instanceof NoSuchElementException;
                said.append(due ? "none " : "! " + call.getName() + Arrays.toString(given) + e.getCause());
            }
        }
        return said.toString();
    }

    private static int pick(Random random) {
        int kind = random.nextInt(8);
        return kind == 0 ? EDGES[random.nextInt(EDGES.length)] : kind == 1 ? random.nextInt() : random.nextInt(kind + 2);
    }
}
