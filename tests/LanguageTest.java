import java.nio.file.Files;
import java.nio.file.Path;
import java.util.ArrayList;
import java.util.HashSet;
import java.util.List;
import java.util.Map;
import java.util.Set;
import java.util.TreeMap;
import java.util.regex.Matcher;
import java.util.regex.Pattern;

/** Holds the source against those rules of LANGUAGE.md that can be read off its text. */
public final class LanguageTest {
    private static int wrong = 0;

    public static void main(String[] args) throws Exception {
        String text = Files.readString(Path.of("src/main/java/CopperBoard.java"));
        String bare = withoutComments(text);
        words(bare);
        library(bare);
        methods(bare);
        classes(bare);
        depths(bare);
        makes(bare);
        System.out.println(wrong == 0 ? "the language is kept to" : wrong + " rules are not kept");
        if (wrong != 0) {
            System.exit(1);
        }
    }

    private static void say(String fault) {
        wrong++;
        System.out.println(fault);
    }

    private static String withoutComments(String text) {
        return text.replaceAll("(?s)/\\*.*?\\*/", "").replaceAll("//[^\n]*", "");
    }

    private static void words(String bare) {
        String[] refused = {"->", "::", "\\bcatch\\b", "\\bfinally\\b", "\\bsynchronized\\b", "\\bassert\\b",
            "Exact\\b", "\\bStream\\b", "\\bMap\\b", "\\bpackage\\b", "\\bdouble\\b", "\\bRandom\\b", "nanoTime",
            "System\\.(?!arraycopy)", "Arrays\\.(?!fill|copyOf)", "\"\\s*\\+", "\\+\\s*\"", "\\bprotected\\b",
            "while \\(true\\)", "for \\(;;\\)", "static \\{", "\\bnew (?!int|NoSuchElementException|Grid|Tape|Nets|Room"
            + "|Router|Presser|Chooser|Trial|Planes|Checks|Trail)"};
        for (String word : refused) {
            Matcher m = Pattern.compile(word).matcher(bare);
            if (m.find()) {
                say("refused: " + bare.substring(m.start(), Math.min(bare.length(), m.start() + 40)));
            }
        }
        Matcher imports = Pattern.compile("import ([^;]*);").matcher(bare);
        while (imports.find()) {
            if (!Set.of("java.util.Arrays", "java.util.NoSuchElementException").contains(imports.group(1))) {
                say("import " + imports.group(1));
            }
        }
        if (bare.split("\\bthrow\\b", -1).length != 2) {
            say("one throw is asked for, that of told");
        }
    }

    /** Rule 4, as far as it is used: the functions of Math and Integer, and nothing of Long. */
    private static void library(String bare) {
        Matcher m = Pattern.compile("\\b(Math|Integer|Long)\\.(\\w+)").matcher(bare);
        while (m.find()) {
            if (!Set.of("Math.max", "Math.min", "Math.abs", "Integer.bitCount").contains(m.group())) {
                say("not of the library: " + m.group());
            }
        }
        for (char sign : bare.toCharArray()) {
            if (sign > 126) {
                say("a sign of the number " + (int) sign);
            }
        }
    }

    private static void methods(String bare) {
        String[] lines = bare.split("\n", -1);
        Pattern head = Pattern.compile(
                "^\\s*(public |private )?(static )?(int|boolean|void|int\\[\\]) (\\w+)\\(([^)]*)\\).*\\{$");
        Set<String> face = new HashSet<>();
        List<String> others = new ArrayList<>();
        for (int i = 0; i < lines.length; i++) {
            Matcher m = head.matcher(lines[i]);
            if (m.matches()) {
                if (m.group(1) != null && m.group(1).startsWith("public")) {
                    face.add(m.group(4));
                } else {
                    others.add(m.group(4));
                }
                if (!m.group(5).isBlank() && m.group(5).split(",").length > 7) {
                    say("too many parameters: " + m.group(4));
                }
                String indent = lines[i].replaceAll("\\S.*", "");
                int last = i;
                while (!lines[last].equals(indent + "}")) {
                    last++;
                }
                if (last - i + 1 > 60) {
                    say("too long: " + m.group(4));
                }
            }
        }
        if (face.size() != 42) {
            say("public methods: " + face.size());
        }
        for (String name : others) {
            if (face.contains(name)) {
                say("bears the name of a public one: " + name);
            }
        }
    }

    private static void classes(String bare) {
        Matcher m = Pattern.compile("\\bclass (\\w+) \\{").matcher(bare);
        int many = 0;
        while (m.find()) {
            many++;
        }
        if (many > 12) {
            say("classes: " + many);
        }
        for (String part : bare.split("\\bclass ")) {
            Matcher f = Pattern.compile("(?m)^\\s*(private |final )*(int|int\\[\\]|[A-Z]\\w*) \\w+( = [^;(]*)?;$").matcher(part);
            int fields = 0;
            String indent = null;
            while (f.find()) {
                String line = f.group().replaceFirst("^\n*", "");
                String own = line.replaceAll("\\S.*", "");
                indent = indent == null ? own : indent;
                fields += own.equals(indent) && !line.contains("static") ? 1 : 0;
            }
            if (fields > 20) {
                say("fields: " + part.substring(0, 20));
            }
        }
    }

    /** The bodies of all methods by name; no two methods of the file share one. */
    private static Map<String, String> bodies(String bare) {
        Map<String, String> all = new TreeMap<>();
        Matcher m = Pattern.compile("(?ms)^( *)(?:public |private )?(?:static )?(?:int|boolean|void|int\\[\\]) (\\w+)"
                + "\\([^)]*\\)[^\n;]*\\{$(.*?)^\\1\\}$").matcher(bare);
        while (m.find()) {
            if (all.put(m.group(2), m.group(3)) != null) {
                say("two methods named " + m.group(2));
            }
        }
        return all;
    }

    /** Rule 11: calls that are no recursion go at most eight deep. */
    private static void depths(String bare) {
        Map<String, String> bodies = bodies(bare);
        if (bodies.size() < 100) {
            say("methods found: " + bodies.size());
        }
        for (String name : bodies.keySet()) {
            int deep = depth(name, bodies, new ArrayList<>());
            if (deep > 8) {
                say("calls go " + deep + " deep from " + name);
            }
        }
    }

    private static int depth(String name, Map<String, String> bodies, List<String> open) {
        if (open.contains(name)) {
            return 0;
        }
        open.add(name);
        int most = 0;
        Matcher m = Pattern.compile("\\b(\\w+)\\(").matcher(bodies.get(name));
        while (m.find()) {
            if (bodies.containsKey(m.group(1))) {
                most = Math.max(most, depth(m.group(1), bodies, open));
            }
        }
        open.remove(name);
        return most + 1;
    }

    /** Rows and objects are made in constructors alone, so that no number of calls fills the room. */
    private static void makes(String bare) {
        for (Map.Entry<String, String> method : bodies(bare).entrySet()) {
            if (method.getValue().replace("throw new", "").contains("new ")) {
                say("makes something: " + method.getKey());
            }
        }
    }
}
