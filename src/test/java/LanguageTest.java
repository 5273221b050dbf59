import com.sun.source.tree.CompilationUnitTree;
import com.sun.source.util.JavacTask;
import com.sun.source.util.Trees;
import java.io.IOException;
import java.io.UncheckedIOException;
import java.nio.file.Path;
import java.util.List;
import javax.tools.JavaCompiler;
import javax.tools.StandardJavaFileManager;
import javax.tools.ToolProvider;

/**
 * The class keeps to the rules of LANGUAGE.md that can be seen from its source. Rule 1's face is
 * FaceTest's; rules 7 (nothing throws) and 11 (the same calls, the same answers) are seen by the
 * other tests, whose calls take any ints in many states; rule 9 only allows.
 */
public final class LanguageTest {
    private static final Check check = new Check();

    public static void main(String[] args) {
        LanguageRules rules = read(Path.of("src/main/java/MerkleLog.java"));
        for (int rule : new int[] {1, 2, 3, 4, 5, 6, 8, 10}) {
            List<String> broken = rules.broken(rule);
            check.test("rule " + rule + " of LANGUAGE.md",
                () -> check.holds("the rule, broken by " + broken + ",", broken.isEmpty()));
        }
        check.finish();
    }

    private static LanguageRules read(Path file) {
        JavaCompiler compiler = ToolProvider.getSystemJavaCompiler();
        try (StandardJavaFileManager files = compiler.getStandardFileManager(null, null, null)) {
            JavacTask task = (JavacTask) compiler.getTask(null, files, null, null, null, files.getJavaFileObjects(file));
            LanguageRules rules = new LanguageRules(Trees.instance(task));
            for (CompilationUnitTree unit : task.parse()) {
                rules.scan(unit, null);
            }
            return rules;
        } catch (IOException thrown) {
            throw new UncheckedIOException(thrown);
        }
    }
}
