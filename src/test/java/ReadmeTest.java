import java.io.IOException;
import java.nio.file.Files;
import java.nio.file.Path;

/** The example of README.md, call by call; README.md must say what is answered here. */
public final class ReadmeTest {
    private static final Bench bench = new Bench();

    public static void main(String[] args) throws IOException {
        String readme = Files.readString(Path.of("README.md"));
        Desk desk = new Desk();
        Bench.type(desk, "A:aAb");
        said(readme, "// " + desk.rule() + ": the number of the rule A -> aAb");
        Bench.type(desk, "A:");
        said(readme, "// " + desk.rule() + ": the empty rule comes first in the order");
        int rules = desk.greibach();
        said(readme, "// " + rules + ": " + Bench.text(desk).replace(":", " -> ").replace(" A", ", A").replace(" B", ", B"));
        Bench.word(desk, "aabb");
        said(readme, "desk.derives();                   // " + desk.derives());
        said(readme, "desk.ways();                      // " + desk.ways());
        said(readme, "// " + desk.derive() + " rules, which step(0) .. step(3) tell: " + Bench.steps(desk));
        bench.end();
    }

    private static void said(String readme, String text) {
        bench.due("README.md says " + text, readme.contains(text), true);
    }
}
