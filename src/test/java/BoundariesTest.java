import java.util.List;
import java.util.Set;
import java.util.TreeSet;

/** Each boundary case that the document names: too small, too large, empty, full, wrapped round, refused. */
public final class BoundariesTest {
    private static final int PROMISES = 47;

    public static void main(String[] args) {
        Set<Integer> promises = new TreeSet<>();
        for (Class<? extends Boundaries> tests : List.of(TextBoundaries.class, ActBoundaries.class,
                QuestionBoundaries.class, SearchBoundaries.class)) {
            Boundaries.runAll(tests, promises);
        }
        for (int p = 1; p <= PROMISES; p++) {
            Check.yes("promise " + p + " has a test", promises.contains(p));
        }
        Check.close("BoundariesTest");
    }
}
