import java.io.IOException;
import java.nio.file.Files;
import java.nio.file.Path;

/** Every clause of ../shared/DOC.md, one test each. */
public final class ClausesTest {
    public static void main(String[] args) throws IOException {
        Clauses clauses = new Clauses(Files.readString(Path.of("../shared/DOC.md")));
        RefusalClauses.test(clauses);
        RowClauses.test(clauses);
        TextClauses.test(clauses);
        WeekClauses.test(clauses);
        ActClauses.test(clauses);
        ForetoldClauses.test(clauses);
        FairClauses.test(clauses);
        SightClauses.test(clauses);
        AskClauses.test(clauses);
        clauses.end("ClausesTest");
    }
}
