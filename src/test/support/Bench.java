/**
 * A workbench that counts its calls, since nothing is promised behind the 512th, with longer deeds that are made of several
 * calls.
 */
final class Bench {
    static final int MOST_CALLS = 512;

    private final CondensedDetachment x = new CondensedDetachment();
    private int calls;

    /** Thrown before the 513th call. */
    static final class NoCallsLeft extends RuntimeException {
        private static final long serialVersionUID = 1L;
    }

    private CondensedDetachment next() {
        if (calls == MOST_CALLS) {
            throw new NoCallsLeft();
        }
        calls++;
        return x;
    }

    int calls() {
        return calls;
    }

    // ---- the calls of the document ----

    int append(int character) {
        return next().append(character);
    }

    int clearText() {
        return next().clearText();
    }

    int addAxiom() {
        return next().addAxiom();
    }

    int detach(int major, int minor) {
        return next().detach(major, minor);
    }

    int prove() {
        return next().prove();
    }

    int cut(int count) {
        return next().cut(count);
    }

    int listSize() {
        return next().listSize();
    }

    int formulaSize(int formula) {
        return next().formulaSize(formula);
    }

    int variableCount(int formula) {
        return next().variableCount(formula);
    }

    int majorOf(int formula) {
        return next().majorOf(formula);
    }

    int minorOf(int formula) {
        return next().minorOf(formula);
    }

    int proofDepth(int formula) {
        return next().proofDepth(formula);
    }

    long proofSize(int formula) {
        return next().proofSize(formula);
    }

    int writeFormula(int formula) {
        return next().writeFormula(formula);
    }

    int writeProof(int formula) {
        return next().writeProof(formula);
    }

    int outputLength() {
        return next().outputLength();
    }

    int outputAt(int index) {
        return next().outputAt(index);
    }

    int isInstance(int formula, int general) {
        return next().isInstance(formula, general);
    }

    int moreGeneral(int formula) {
        return next().moreGeneral(formula);
    }

    int unify(int first, int second) {
        return next().unify(first, second);
    }

    int round(int limit) {
        return next().round(limit);
    }

    int shortest(int formula, int most) {
        return next().shortest(formula, most);
    }

    int setEntry(int left, int right, int value) {
        return next().setEntry(left, right, value);
    }

    int setDesignated(int values) {
        return next().setDesignated(values);
    }

    int isNormal() {
        return next().isNormal();
    }

    int isValid(int formula) {
        return next().isValid(formula);
    }

    int refutation(int formula, int variable) {
        return next().refutation(formula, variable);
    }

    int countValuations(int formula, int value) {
        return next().countValuations(formula, value);
    }

    int addType() {
        return next().addType();
    }

    int reduceTerm(int steps) {
        return next().reduceTerm(steps);
    }

    int allocate(int row, int type, int length) {
        return next().allocate(row, type, length);
    }

    int put(int row, int index, int value) {
        return next().put(row, index, value);
    }

    long rowElement(int row, int index) {
        return next().rowElement(row, index);
    }

    int copyElements(int from, int first, int to, int second, int count) {
        return next().copyElements(from, first, to, second, count);
    }

    int storeOutput(int row, int index) {
        return next().storeOutput(row, index);
    }

    int loadText(int row, int index, int count) {
        return next().loadText(row, index, count);
    }

    // ---- longer deeds ----

    static Bench with(String... axioms) {
        Bench bench = new Bench();
        for (String axiom : axioms) {
            bench.axiom(axiom);
        }
        return bench;
    }

    Bench type(String text) {
        for (int i = 0; i < text.length(); i++) {
            append(text.charAt(i));
        }
        return this;
    }

    int axiom(String text) {
        return type(text).addAxiom();
    }

    int proof(String text) {
        return type(text).prove();
    }

    int termType(String text) {
        return type(text).addType();
    }

    int reduced(String text, int steps) {
        return type(text).reduceTerm(steps);
    }

    String output() {
        StringBuilder text = new StringBuilder();
        int length = outputLength();
        for (int i = 0; i < length; i++) {
            text.append((char) outputAt(i));
        }
        return text.toString();
    }

    /** The formula becomes the output. */
    String formula(int formula) {
        writeFormula(formula);
        return output();
    }

    /** The proof becomes the output. */
    String proofOf(int formula) {
        writeProof(formula);
        return output();
    }

    /** The elements of a row, with a blank behind each. */
    String elements(int row) {
        StringBuilder text = new StringBuilder();
        long element = rowElement(row, 0);
        for (int i = 1; element != Long.MIN_VALUE; i++) {
            text.append(element).append(' ');
            element = rowElement(row, i);
        }
        return text.toString();
    }

    /**
     * Fills the empty list with the types of K, S, B, C, W and I, the formulas 0 to 5, with their results in the order of a
     * round, and with results of those; then cuts it.
     */
    void fillWithTypes(int size) {
        for (char letter : "KSBCWI".toCharArray()) {
            append(letter);
            addType();
        }
        round(39);
        round(39);
        cut(size);
    }

    /** Appends axioms CaCa..a, CaCa..b, CaCa..Cba and CaCa..Cbb, which are read from row 2, until the list has a size. */
    void fillFromRow(int size) {
        allocate(2, 1, 39);
        for (int i = 0; i < 38; i++) {
            put(2, i, i % 2 == 0 ? 'C' : 'a');
        }
        int count = listSize();
        for (int kind = 0; kind < 4; kind++) {
            put(2, 37, "aabb".charAt(kind));
            put(2, 38, "abab".charAt(kind));
            for (int start = 36; start >= 0 && count < size; start -= 2) {
                loadText(2, start, 39 - start);
                count = Math.max(count, addAxiom() + 1);
            }
        }
    }
}
