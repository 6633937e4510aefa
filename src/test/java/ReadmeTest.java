import java.io.IOException;
import java.nio.file.Files;
import java.nio.file.Path;
import java.util.regex.Pattern;

/** README.md's examples are made here, call by call, and have to answer what they say there. */
public final class ReadmeTest {
    private static final Due due = new Due();
    private static String readme = "";
    private static int lines = 0;

    public static void main(String[] args) throws IOException {
        readme = Files.readString(Path.of("README.md"));
        drawn();
        wired();
        due.is("lines of examples", lines, (int) Pattern.compile("(?m)^\\w+\\.\\w+\\(.*\\); +// ").matcher(readme)
            .results().count());
        due.end();
    }

    private static void says(String call, int got, int want) {
        lines++;
        due.is(call, got, want);
        boolean there = Pattern.compile("(?m)^" + Pattern.quote(call + ";") + " +// " + want + "\\b").matcher(readme).find();
        due.is("README.md has " + call + " with its answer", there);
    }

    private static void drawn() {
        RulePlate plate = new RulePlate();
        says("plate.box(0, 1, 64 * 2 + 3, 100 * 8 + 5, false)", plate.box(0, 1, 64 * 2 + 3, 100 * 8 + 5, false), 0);
        says("plate.rule(0, 1, 0, 6)", plate.rule(0, 1, 0, 6), 0);
        says("plate.flat(0)", plate.flat(0), 40);
        says("plate.run()", plate.run(), 8);
        says("plate.fault(0, 3)", plate.fault(0, 3), 5);
    }

    private static void wired() {
        RulePlate wires = new RulePlate();
        says("wires.path(0, 1, 64 * 2, 64 * 2 + 4, 1)", wires.path(0, 1, 64 * 2, 64 * 2 + 4, 1), 0);
        says("wires.path(0, 2, 2, 64 * 4 + 2, 1)", wires.path(0, 2, 2, 64 * 4 + 2, 1), 1);
        says("wires.text(0, 2, 2, 7)", wires.text(0, 2, 2, 7), 2);
        says("wires.made(8, 2, 1, 2)", wires.made(8, 2, 1, 2), 1);
        says("wires.conducts(2, true)", wires.conducts(2, true), 0);
        says("wires.conducts(8, true)", wires.conducts(8, true), 0);
        says("wires.gates(2, 1, 8)", wires.gates(2, 1, 8), 1);
        says("wires.flat(0)", wires.flat(0), 10);
        says("wires.circuit()", wires.circuit(), 3);
        says("wires.name(0, 0)", wires.name(0, 0), 7);
        says("wires.device(0, 1)", wires.device(0, 1), 0);
        says("wires.wish(24 * 24 * 5 + 24 * 3 + 4, 0)", wires.wish(24 * 24 * 5 + 24 * 3 + 4, 0), 0);
        says("wires.same()", wires.same(), 1);
        says("wires.pair(0, true)", wires.pair(0, true), 5);
    }
}
