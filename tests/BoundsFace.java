import java.lang.reflect.Constructor;
import java.lang.reflect.Field;
import java.lang.reflect.Member;
import java.lang.reflect.Method;
import java.lang.reflect.Modifier;
import java.util.ArrayList;
import java.util.Collections;
import java.util.List;

/** What the document says before and between the promises: the face, its constants, how long an object is used. */
final class BoundsFace extends Bounds {
    /** The members of the face; each method stands in the place of its promise's number. */
    private static final String[] FACE = {
        "",
        "public CopperBoard(int wide, int deep, int layers);",
        "public int feed(int a, int b, int c, int d, int e);",
        "public boolean end(int n);",
        "public int fault();",
        "public int sort();",
        "public int told(int sort, int what) throws NoSuchElementException;",
        "public int net(int sort);",
        "public int pin(int net, int x, int y, int layer);",
        "public boolean keep(int x, int y, int x2, int y2, int layers);",
        "public boolean wire(int net, int x, int y, int x2, int y2, int layer);",
        "public boolean hole(int net, int x, int y, int layer);",
        "public int copper(int x, int y, int layer);",
        "public int free(int net, int x, int y, int layer);",
        "public int lay(int net);",
        "public int cost(int net, boolean vias);",
        "public boolean rip(int net);",
        "public boolean rank(int net, int v);",
        "public int order();",
        "public int press(int turns, int pressure);",
        "public int cut(int net, int what);",
        "public int bars(int net);",
        "public int together(int nets);",
        "public int about(int net, int what);",
        "public int stretch(int net, int length);",
        "public int span(int net);",
        "public int equal(int nets, int by);",
        "public int plane(int net, int layer, int what);",
        "public int spokes(int net, int pin);",
        "public int back(int net, int of, int layer);",
        "public int wander(int x, int y, int what);",
        "public int worst(int most, int what);",
        "public int late(int net, int pin, int x, int y, int layer);",
        "public int netlist(int what);",
        "public int test(int layer);",
        "public boolean slow(int layer, int v);",
        "public int delay(int net);",
        "public int pair(int a, int b, int what);",
        "public int beside(int turns, int pressure, int what);",
        "public int why(int net);",
        "public boolean steady();",
        "public int panel(int sheetWide, int sheetDeep, int between, int what);",
        "public boolean unwire(int net);",
        "public int count(int what);",
    };

    static void all() {
        theClass();
        constants();
        members();
        nothingMore();
        calls();
    }

    private static void theClass() {
        test(0, "public final class CopperBoard {", () -> {
            int kind = CopperBoard.class.getModifiers();
            due("public", Modifier.isPublic(kind), true);
            due("final", Modifier.isFinal(kind), true);
            due("abstract", Modifier.isAbstract(kind), false);
            same("package", CopperBoard.class.getPackageName(), "");
            same("class above", CopperBoard.class.getSuperclass().getSimpleName(), "Object");
            due("interfaces", CopperBoard.class.getInterfaces().length, 0);
        });
    }

    private static void constants() {
        test(0, "public static final int NONE = -1;", () -> constant("NONE", -1));
        test(0, "public static final int HIDDEN = -1000;", () -> constant("HIDDEN", -1000));
        test(0, "The constants: `NONE = -1`: None; refused.", () -> {
            CopperBoard b = rich();
            due("no fault", board(2, 2, 1).fault(), 0);
            due("refused", b.lay(4), CopperBoard.NONE);
            feed(b, " 1");
            due("none", b.fault(), CopperBoard.NONE);
        });
        test(0, "`HIDDEN = -1000`: Not told.", () -> {
            CopperBoard b = rich();
            due("worst", b.worst(4, 0), CopperBoard.HIDDEN);
            due("pair", b.pair(0, 0, 0), CopperBoard.HIDDEN);
            due("an answer of -1 stands beside it", b.pair(1, 0, 1) != CopperBoard.HIDDEN, true);
        });
    }

    private static void constant(String name, int want) {
        try {
            Field field = CopperBoard.class.getDeclaredField(name);
            same(name, Modifier.toString(field.getModifiers()) + " " + field.getType(), "public static final int");
            due(name, field.getInt(null), want);
        } catch (ReflectiveOperationException e) {
            fail("no constant " + name);
        }
    }

    private static void members() {
        List<String> made = new ArrayList<>();
        for (Method method : CopperBoard.class.getDeclaredMethods()) {
            String throwing = method.getExceptionTypes().length == 0 ? "" : " throws " + names(method.getExceptionTypes());
            made.add(Modifier.toString(method.getModifiers()) + " " + method.getReturnType().getSimpleName() + " "
                    + method.getName() + "(" + names(method.getParameterTypes()) + ")" + throwing + ";");
        }
        for (Constructor<?> way : CopperBoard.class.getDeclaredConstructors()) {
            made.add(Modifier.toString(way.getModifiers()) + " CopperBoard(" + names(way.getParameterTypes()) + ");");
        }
        for (int promise = 1; promise < FACE.length; promise++) {
            String line = FACE[promise];
            String types = line.replaceAll("(int|boolean) \\w+(?=[,)])", "$1");
            test(promise, line, () -> due(types, made.contains(types), true));
        }
    }

    private static String names(Class<?>[] types) {
        StringBuilder all = new StringBuilder();
        for (Class<?> type : types) {
            all.append(all.length() == 0 ? "" : ", ").append(type.getSimpleName());
        }
        return all.toString();
    }

    private static void nothingMore() {
        test(0, "Nothing is promised beyond the answers and state changes described above", () -> {
            List<Member> all = new ArrayList<>();
            Collections.addAll(all, CopperBoard.class.getDeclaredMethods());
            Collections.addAll(all, CopperBoard.class.getDeclaredConstructors());
            Collections.addAll(all, CopperBoard.class.getDeclaredFields());
            int open = 0;
            for (Member member : all) {
                open += Modifier.isPrivate(member.getModifiers()) || member.isSynthetic() ? 0 : 1;
            }
            due("members that are not private", open, FACE.length - 1 + 2);
            for (Class<?> inner : CopperBoard.class.getDeclaredClasses()) {
                due(inner.getSimpleName() + " public", Modifier.isPublic(inner.getModifiers()), false);
            }
        });
    }

    private static void calls() {
        test(0, "An object is used for at most 512 calls after it has been made", () -> {
            CopperBoard b = new CopperBoard(9, 9, 4);
            int made = 0;
            b.feed(0x73310000, 0, 0, 0, 0);
            b.sort();
            b.net(0);
            b.pin(0, 0, 0, 0);
            b.pin(0, 8, 8, 3);
            b.fault();
            made += 6;
            while (made < 510) {
                due("call " + made, b.lay(0), 16 + 3 * 5);
                due("call " + made, b.rip(0), true);
                made += 2;
            }
            due("the 512th but one", b.rip(0), false);
            due("the 512th", b.lay(0), 31);
        });
    }
}
