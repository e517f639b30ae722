import java.nio.file.Files;
import java.nio.file.Path;
import java.util.ArrayList;
import java.util.HashSet;
import java.util.List;
import java.util.Set;
import java.util.regex.Matcher;
import java.util.regex.Pattern;

/** Holds the source against those rules of LANGUAGE.md that can be read off its text. */
public final class LanguageTest {
    private static int wrong = 0;

    public static void main(String[] args) throws Exception {
        String text = Files.readString(Path.of("src/main/java/CopperBoard.java"));
        String bare = withoutComments(text);
        words(bare);
        methods(bare);
        classes(bare);
        System.out.println(wrong == 0 ? "the language is kept to" : wrong + " rules are not kept");
        if (wrong != 0) {
            System.exit(1);
        }
    }

    private static void say(String fault) {
        wrong++;
        System.out.println(fault);
    }

    private static String withoutComments(String text) {
        return text.replaceAll("(?s)/\\*.*?\\*/", "").replaceAll("//[^\n]*", "");
    }

    private static void words(String bare) {
        String[] refused = {"->", "::", "\\bcatch\\b", "\\bfinally\\b", "\\bsynchronized\\b", "\\bassert\\b",
            "Exact\\b", "\\bStream\\b", "\\bMap\\b", "\\bpackage\\b", "\\bdouble\\b", "\\bRandom\\b", "nanoTime",
            "System\\.(?!arraycopy)", "Arrays\\.(?!fill|copyOf)", "\"\\s*\\+", "\\+\\s*\"", "\\bprotected\\b",
            "while \\(true\\)", "for \\(;;\\)", "static \\{", "\\bnew (?!int|NoSuchElementException|Grid|Tape|Nets|Room"
            + "|Router|Presser|Chooser|Trial|Planes|Checks|Trail)"};
        for (String word : refused) {
            Matcher m = Pattern.compile(word).matcher(bare);
            if (m.find()) {
                say("refused: " + bare.substring(m.start(), Math.min(bare.length(), m.start() + 40)));
            }
        }
        Matcher imports = Pattern.compile("import ([^;]*);").matcher(bare);
        while (imports.find()) {
            if (!Set.of("java.util.Arrays", "java.util.NoSuchElementException").contains(imports.group(1))) {
                say("import " + imports.group(1));
            }
        }
        if (bare.split("\\bthrow\\b", -1).length != 2) {
            say("one throw is asked for, that of told");
        }
    }

    private static void methods(String bare) {
        String[] lines = bare.split("\n", -1);
        Pattern head = Pattern.compile(
                "^\\s*(public |private )?(static )?(int|boolean|void|int\\[\\]) (\\w+)\\(([^)]*)\\).*\\{$");
        Set<String> face = new HashSet<>();
        List<String> others = new ArrayList<>();
        for (int i = 0; i < lines.length; i++) {
            Matcher m = head.matcher(lines[i]);
            if (m.matches()) {
                if (m.group(1) != null && m.group(1).startsWith("public")) {
                    face.add(m.group(4));
                } else {
                    others.add(m.group(4));
                }
                if (!m.group(5).isBlank() && m.group(5).split(",").length > 7) {
                    say("too many parameters: " + m.group(4));
                }
                String indent = lines[i].replaceAll("\\S.*", "");
                int last = i;
                while (!lines[last].equals(indent + "}")) {
                    last++;
                }
                if (last - i + 1 > 60) {
                    say("too long: " + m.group(4));
                }
            }
        }
        if (face.size() != 42) {
            say("public methods: " + face.size());
        }
        for (String name : others) {
            if (face.contains(name)) {
                say("bears the name of a public one: " + name);
            }
        }
    }

    private static void classes(String bare) {
        Matcher m = Pattern.compile("\\bclass (\\w+) \\{").matcher(bare);
        int many = 0;
        while (m.find()) {
            many++;
        }
        if (many > 12) {
            say("classes: " + many);
        }
        for (String part : bare.split("\\bclass ")) {
            Matcher f = Pattern.compile("(?m)^\\s*(private |final )*(int|int\\[\\]|[A-Z]\\w*) \\w+( = [^;(]*)?;$").matcher(part);
            int fields = 0;
            String indent = null;
            while (f.find()) {
                String line = f.group().replaceFirst("^\n*", "");
                String own = line.replaceAll("\\S.*", "");
                indent = indent == null ? own : indent;
                fields += own.equals(indent) && !line.contains("static") ? 1 : 0;
            }
            if (fields > 20) {
                say("fields: " + part.substring(0, 20));
            }
        }
    }
}
