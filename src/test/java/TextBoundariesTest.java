/** The boundary cases of the promises 1 to 3: a new object, append and clearText. */
public final class TextBoundariesTest {
    public static void main(String[] args) {
        Checks.run(TextBoundariesTest.class);
    }

    private static void appendMany(Bench x, int count) {
        for (int i = 1; i <= count; i++) {
            Checks.due(x.append('a'), i);
        }
    }

    private static void fullText(Bench x) {
        Checks.busy(x);
        x.clearText();
        x.type("K".repeat(80));
    }

    // ---- promise 1 ----

    static void promise01_listIsEmpty() {
        Bench x = new Bench();
        Checks.due(x.listSize(), 0);
        Checks.due(x.formulaSize(0), Checks.NO_SUCH);
        Checks.due(x.writeFormula(0), Checks.NO_SUCH);
        Checks.due(x.cut(1), Checks.BAD);
        Checks.due(x.axiom("a"), 0);
    }

    static void promise01_textIsEmpty() {
        Checks.due(new Bench().clearText(), 0);
        Checks.due(new Bench().append('a'), 1);
        Checks.due(new Bench().addAxiom(), -100);
    }

    static void promise01_outputIsEmpty() {
        Bench x = new Bench();
        Checks.due(x.outputLength(), 0);
        Checks.due(x.outputAt(0), Checks.NO_SUCH);
    }

    static void promise01_allRowsAreMissing() {
        Bench x = new Bench();
        for (int row = 0; row < 3; row++) {
            Checks.due(x.put(row, 0, 0), Checks.MISSING);
            Checks.due(x.rowElement(row, 0), Long.MIN_VALUE);
            Checks.due(x.storeOutput(row, 0), Checks.MISSING);
            Checks.due(x.loadText(row, 0, 0), Checks.MISSING);
        }
    }

    static void promise01_anotherObjectChangesNothing() {
        Checks.same(x -> { }, x -> Checks.busy(new Bench()));
    }

    static void promise01_call512IsAnswered() {
        Bench x = new Bench();
        x.axiom("CaCba");
        while (x.calls() < Bench.MOST_CALLS - 1) {
            Checks.due(x.formulaSize(0), 5);
        }
        Checks.due(x.detach(0, 0), 1);
        Checks.due(x.calls(), 512);
    }

    // ---- promise 2 ----

    static void promise02_code32IsBadValue() {
        Checks.due(new Bench().append(32), Checks.BAD);
    }

    static void promise02_code33IsTaken() {
        Checks.due(new Bench().append(33), 1);
    }

    static void promise02_code126IsTaken() {
        Checks.due(new Bench().append(126), 1);
    }

    static void promise02_code127IsBadValue() {
        Checks.due(new Bench().append(127), Checks.BAD);
    }

    static void promise02_allCodesBetweenAreTaken() {
        Bench x = new Bench();
        for (int code = 33; code <= 126; code++) {
            Checks.due(x.append(code), 1);
            Checks.due(x.clearText(), 1);
        }
    }

    static void promise02_codesFarOutsideAreBadValue() {
        for (int code : new int[] {0, -1, -33, Checks.MIN, Checks.MAX, 128, 256 + 'a', 65536 + 'a', 'a' - 65536, ~'a'}) {
            Checks.due(new Bench().append(code), Checks.BAD);
        }
    }

    static void promise02_badValueForAnEmptyTextLeavesAll() {
        Checks.leavesAll(x -> {
            Checks.busy(x);
            x.clearText();
        }, x -> x.append(32), Checks.BAD);
    }

    static void promise02_badValueLeavesAll() {
        Checks.leavesAll(Checks::busy, x -> x.append(32), Checks.BAD);
        Checks.leavesAll(Checks::busy, x -> x.append(127), Checks.BAD);
    }

    static void promise02_character80IsTaken() {
        Bench x = new Bench();
        appendMany(x, 79);
        Checks.due(x.append('a'), 80);
    }

    static void promise02_character81IsFull() {
        Bench x = new Bench();
        appendMany(x, 80);
        Checks.due(x.append('a'), Checks.FULL);
        Checks.due(x.append('a'), Checks.FULL);
        Checks.due(x.clearText(), 80);
    }

    static void promise02_fullLeavesAll() {
        Checks.leavesAll(TextBoundariesTest::fullText, x -> x.append('S'), Checks.FULL);
    }

    static void promise02_badValueIsCheckedBeforeFull() {
        Bench x = new Bench();
        appendMany(x, 80);
        Checks.due(x.append(32), Checks.BAD);
        Checks.due(x.append(127), Checks.BAD);
        Checks.due(x.append(Checks.MIN), Checks.BAD);
        Checks.due(x.append(33), Checks.FULL);
        Checks.due(x.append(126), Checks.FULL);
    }

    static void promise02_aFullTextThatWasEmptiedTakes80More() {
        Bench x = new Bench();
        appendMany(x, 80);
        Checks.due(x.clearText(), 80);
        appendMany(x, 80);
        Checks.due(x.append('a'), Checks.FULL);
    }

    static void promise02_aTextThatWasReadTakes80More() {
        Bench x = new Bench();
        x.axiom("a");
        appendMany(x, 80);
        Checks.due(x.addAxiom(), -101);
        appendMany(x, 80);
        Checks.due(x.append('a'), Checks.FULL);
    }

    static void promise02_onlyTheTextChanges() {
        Checks.same(Checks::busy, x -> {
            Checks.busy(x);
            x.clearText();
            x.type("S(KI)W");
        });
    }

    // ---- promise 3 ----

    static void promise03_emptyText() {
        Bench x = new Bench();
        Checks.due(x.clearText(), 0);
        Checks.due(x.clearText(), 0);
        Checks.due(x.append('a'), 1);
    }

    static void promise03_oneCharacter() {
        Bench x = new Bench();
        x.append('a');
        Checks.due(x.clearText(), 1);
        Checks.due(x.clearText(), 0);
    }

    static void promise03_fullText() {
        Bench x = new Bench();
        appendMany(x, 80);
        Checks.due(x.clearText(), 80);
        Checks.due(x.clearText(), 0);
    }

    static void promise03_whatStoodBeforeDoesNotComeBack() {
        Bench x = new Bench();
        x.type("CaCba");
        Checks.due(x.clearText(), 5);
        Checks.due(x.axiom("C"), -101);
        Checks.due(x.axiom("b"), 0);
        Checks.due(x.formula(0), "a");
    }

    static void promise03_onlyTheTextChanges() {
        Bench x = new Bench();
        Checks.busy(x);
        Checks.due(x.clearText(), 6);
        Checks.same(y -> {
            Checks.busy(y);
            y.reduceTerm(-1);
        }, y -> {
            Checks.busy(y);
            y.clearText();
        });
    }
}
