import java.io.IOException;
import java.nio.file.Files;
import java.nio.file.Path;
import java.util.ArrayList;
import java.util.List;

/** What README.md shows is what runs here, and answers as it says. Run from the project's directory. */
public final class ReadmeTest extends Check {
    /** A moat of four corners beside a disc: five holes. */
    private static void example() {
        // README begins
        PlaneFills board = new PlaneFills(2);
        int ground = board.plane(1, 0, 5);
        board.corner(ground, 2, 2);
        board.corner(ground, 22, 2);
        board.corner(ground, 22, 18);
        board.corner(ground, 2, 18);
        board.ring(ground);
        board.obstacle(2, 0, 15, 8, 2);
        board.pad(1, 0, 4, 13, 3, 2);
        board.rule(0, 2);
        int pieces = board.fill();
        boolean copper = board.in(ground, 3, 3);
        int rings = board.rings(ground, 0);
        long x = board.at(ground, 0, 1, 0, 0);
        long y = board.at(ground, 0, 1, 0, 1);
        int joined = board.spoke(0, 0, 0);
        board.hatch(ground, 4, 2);
        boolean same = board.changed(0, 0, 31, 23);
        // README ends
        due("pieces", 1, () -> pieces);
        due("copper", true, () -> copper);
        due("rings", 6, () -> rings);
        due("the first cell of the first hole", "13,4", () -> x + "," + y);
        due("joined", 1, () -> joined);
        due("same", false, () -> same);
    }

    /** The lines between two others, without what is said behind // and without their margin. */
    private static List<String> between(Path file, String begin, String end) throws IOException {
        List<String> found = new ArrayList<>();
        boolean inside = false;
        for (String line : Files.readAllLines(file)) {
            if (line.trim().equals(end)) {
                inside = false;
            }
            if (inside) {
                found.add(line.replaceAll("//.*", "").trim());
            }
            inside |= found.isEmpty() && line.trim().equals(begin);
        }
        return found;
    }

    public static void main(String[] args) throws IOException {
        says("README.md says how to use the class and how to run its tests");
        example();
        List<String> shown = between(Path.of("README.md"), "```java", "```");
        List<String> run = between(Path.of("src/test/java/ReadmeTest.java"), "// README begins", "// README ends");
        due("the example of README.md", run, () -> shown);
        String text = Files.readString(Path.of("README.md"));
        due("how to run the tests", true, () -> text.contains("`.ci/run`"));
        for (String name : new String[] {"plane", "corner", "ring", "obstacle", "rule", "pad", "fill", "rings", "at", "in",
            "islands", "spoke", "stitch", "hatch", "changed", "narrow"}) {
            due("how to call " + name, true, () -> text.contains("`" + name + "("));
        }
        end();
    }
}
