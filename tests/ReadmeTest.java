import java.nio.file.Files;
import java.nio.file.Path;

/** The calls that README.md shows, with the answers that it tells. */
public final class ReadmeTest {
    private static int wrong = 0;

    public static void main(String[] args) throws Exception {
        example();
        sameAsReadme();
        System.out.println(wrong == 0 ? "the readme is as due" : wrong + " lines of the readme are not as due");
        if (wrong != 0) {
            System.exit(1);
        }
    }

    private static void due(int got, int want) {
        if (got != want) {
            wrong++;
            System.out.println("answered " + got + ", the readme tells " + want);
        }
    }

    private static void due(boolean got, boolean want) {
        due(got ? 1 : 0, want ? 1 : 0);
    }

    private static void example() {
        CopperBoard board = new CopperBoard(6, 4, 2);
        due(board.feed(0x7320322c, 0x76203900, 0, 0, 0), 7);
        due(board.fault(), CopperBoard.NONE);
        int sort = board.sort();
        due(sort, 0);
        due(board.count(2), 0);
        int power = board.net(sort);
        due(power, 0);
        due(board.pin(power, 0, 1, 0), 0);
        due(board.pin(power, 5, 1, 0), 1);
        int signal = board.net(sort);
        due(signal, 1);
        due(board.pin(signal, 2, 0, 0), 0);
        due(board.pin(signal, 2, 3, 0), 1);
        due(board.keep(0, 3, 1, 3, 3), true);
        due(board.lay(power), 10);
        due(board.cost(signal, false), CopperBoard.NONE);
        due(board.bars(signal), 0);
        due(board.why(signal), 1);
        due(board.lay(signal), 24);
        due(board.about(signal, 1), 2);
        due(board.copper(2, 1, 1), 2);
        due(board.netlist(0), 0);
        due(board.netlist(1), 0);
        due(board.stretch(power, 7), 7);
    }

    /** Each line of code that the readme shows stands above, with the answer that its comment begins with. */
    private static void sameAsReadme() throws Exception {
        String readme = Files.readString(Path.of("README.md"));
        String here = Files.readString(Path.of("tests/ReadmeTest.java"));
        int from = readme.indexOf("```java") + 7;
        for (String line : readme.substring(from, readme.indexOf("```", from)).split("\n")) {
            String code = line.replaceAll("//.*", "").replace(";", "").trim();
            String answer = line.replaceAll(".*// ", "").replaceAll("[: ].*", "").replace("NONE", "CopperBoard.NONE");
            String wanted = code.contains(" = ") ? code : "due(" + code + ", " + answer + ")";
            if (!code.isEmpty() && !here.contains(wanted)) {
                wrong++;
                System.out.println("not tried: " + wanted);
            }
        }
    }
}
