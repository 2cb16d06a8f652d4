import java.io.IOException;
import java.nio.file.Files;
import java.nio.file.Path;
import java.util.regex.Matcher;
import java.util.regex.Pattern;

/** The runs of calls under "Examples" as they stand there, and once more as they are read from the document itself. */
public final class ExamplesTest {
    private static final Path DOCUMENT = Path.of("../shared/DOC.md");
    private static final Pattern TITLE = Pattern.compile("([A-Z][A-Za-z ]*):");

    public static void main(String[] args) {
        Checks.run(ExamplesTest.class);
    }

    static void examples_aFormulaIsDetachedFromItself() {
        Checks.due(Replay.run("""
            append(67) -> 1, append(112) -> 2, append(67) -> 3, append(113) -> 4, append(112) -> 5,
            addAxiom() -> 0, detach(0,0) -> 1, writeFormula(1) -> 7, outputAt(1) -> 97, outputAt(3) -> 98, proofSize(1) -> 1,
            isInstance(0,1) -> 0, moreGeneral(0) -> -4"""), 13);
    }

    static void examples_aProofByCombinators() {
        Checks.due(Replay.run("""
            append(75) -> 1, addType() -> 0, append(83) -> 1, addType() -> 1, append(68) -> 1, append(50) -> 2,
            append(49) -> 3, prove() -> 2, formulaSize(2) -> 7, variableCount(2) -> 2, majorOf(2) -> 1"""), 11);
    }

    static void examples_typesOfCombinators() {
        Checks.due(Replay.run("""
            append(83) -> 1, append(75) -> 2, append(75) -> 3, addType() -> 0, formulaSize(0) -> 3,
            append(83) -> 1, append(73) -> 2, append(73) -> 3, addType() -> -4, append(83) -> 1, append(75) -> 2, append(75) -> 3,
            append(73) -> 4, reduceTerm(9) -> 2, outputLength() -> 1"""), 15);
    }

    static void examples_valuationsAndDesignatedValues() {
        Checks.due(Replay.run("""
            append(67) -> 1, append(67) -> 2, append(112) -> 3, append(113) -> 4, append(112) -> 5,
            addAxiom() -> 0, isValid(0) -> 0, refutation(0,0) -> 0, refutation(0,1) -> 0, countValuations(0,2) -> 4,
            setDesignated(7) -> 4, isValid(0) -> 1"""), 12);
    }

    static void examples_faultsAndARowOfCharacters() {
        Checks.due(Replay.run("""
            append(67) -> 1, append(112) -> 2, append(67) -> 3, addAxiom() -> -103, append(83) -> 1,
            append(40) -> 2, append(75) -> 3, reduceTerm(1) -> -103, allocate(0,1,4) -> 4, append(112) -> 1, addAxiom() -> 0,
            writeFormula(0) -> 1, storeOutput(0,3) -> 1, rowElement(0,3) -> 97"""), 14);
    }

    static void examples_asTheDocumentHasThem() throws IOException {
        String section = section(Files.readString(DOCUMENT), "Examples");
        Matcher title = TITLE.matcher(section);
        int runs = 0;
        boolean more = title.find();
        while (more) {
            int start = title.end();
            more = title.find();
            Checks.due(Replay.run(section.substring(start, more ? title.start() : section.length())) > 0 ? 1 : 0, 1);
            runs++;
        }
        Checks.due(runs, 5);
    }

    private static String section(String document, String title) {
        int start = document.indexOf("\n## " + title + "\n");
        int end = document.indexOf("\n## ", start + 1);
        return document.substring(start + title.length() + 5, end);
    }
}
