import java.io.IOException;
import java.lang.reflect.Method;
import java.nio.file.Files;
import java.nio.file.Path;
import java.util.Set;
import java.util.TreeSet;

/** Each promise has boundary tests, and each of these quotes a sentence that stands in the document. */
final class BoundaryIndexTest {
    private static final int PROMISES = 41;
    private static final Path DOCUMENT = Path.of("../shared/DOC.md");
    private static final Class<?>[] TESTS = {BoundaryBusTest.class, BoundaryLinksTest.class, BoundaryNowTest.class,
        BoundaryHeardTest.class, BoundaryEnvelopesTest.class, BoundaryActsTest.class, BoundaryFutureTest.class,
        BoundaryToldTest.class};

    public static void main(String[] args) throws IOException {
        Check check = new Check("BoundaryIndexTest");
        String document = Files.readString(DOCUMENT).replaceAll("\\s+", " ");
        Set<Integer> promises = new TreeSet<>();
        for (Class<?> tests : TESTS) {
            for (Method test : Boundaries.testsOf(tests)) {
                Sentence sentence = test.getAnnotation(Sentence.class);
                promises.add(sentence.promise());
                check.due(test.getName() + " quotes the document", true, document.contains(sentence.says()));
                check.due(test.getName() + " is named for its promise", true,
                        test.getName().startsWith("promise" + sentence.promise() + "_"));
            }
        }
        for (int promise = 1; promise <= PROMISES; promise++) {
            check.due("promise " + promise + " has a boundary test", true, promises.contains(promise));
        }
        check.finish();
    }
}
