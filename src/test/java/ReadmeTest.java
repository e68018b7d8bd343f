import java.nio.file.Files;
import java.nio.file.Path;
import java.util.List;

/** What README.md shows of the class must be so, and must still stand there. */
public final class ReadmeTest {
    private static final Checks C = new Checks("ReadmeTest");

    public static void main(String[] args) throws Exception {
        String readme = Files.readString(Path.of("README.md"));
        CornWay x = new CornWay();
        C.due("field(2, 3)", x.field(2, 3), 6);
        Checks.write(x, "35#094");
        C.due("sow()", x.sow(), 5);
        C.due("the pad is empty again", x.told(0), 0);
        Checks.write(x, "esw");
        C.due("way(3)", x.way(3), 32);
        C.due("longest(-1)", x.longest(-1), 4);
        C.due("best(0)", x.best(0), 'e');
        for (String line : List.of("x.field(2, 3);", "\"35#094\"", "x.sow();", "\"esw\"", "x.way(3);",
                "x.longest(-1);", "x.best(0);", ".ci/run")) {
            C.holds("README.md says " + line, readme.contains(line));
        }
        for (String file : new java.io.File("src/test/java").list()) {
            String name = file.replace(".java", "");
            boolean told = readme.contains(name) || name.startsWith("EdgesOf") && readme.contains("EdgesOf..Test");
            C.holds("README.md tells of " + name, told || !name.endsWith("Test"));
        }
        C.end();
    }
}
