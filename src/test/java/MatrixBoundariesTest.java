/** The boundary cases of the promises 24 to 29: setEntry, setDesignated, isNormal, isValid, refutation and countValuations. */
public final class MatrixBoundariesTest {
    private static final int[] NO_VALUES = {-1, 3, 4, -3, Checks.MIN, Checks.MAX};
    private static final int[] OUTSIDE = {-1, 4, 59, 60, -4, Checks.MIN, Checks.MAX};
    private static final int[] FIRST_TABLE = {2, 2, 2, 1, 2, 2, 0, 1, 2};

    public static void main(String[] args) {
        Checks.run(MatrixBoundariesTest.class);
    }

    /** x -> y is y, whatever x is. */
    private static void takeTheRight(Bench x) {
        for (int i = 0; i < 9; i++) {
            x.setEntry(i / 3, i % 3, i % 3);
        }
    }

    /** x -> y is the less one of x and y. */
    private static void takeTheLess(Bench x) {
        for (int i = 0; i < 9; i++) {
            x.setEntry(i / 3, i % 3, Math.min(i / 3, i % 3));
        }
    }

    /** Formulas with 8 and with 9 variables. */
    private static Bench withMany() {
        return Bench.with(Checks.chain(7, "h"), Checks.chain(8, "i"));
    }

    // ---- promise 24 ----

    static void promise24_firstTable() {
        Bench x = new Bench();
        for (int i = 0; i < 9; i++) {
            Checks.due(x.setEntry(i / 3, i % 3, 0), FIRST_TABLE[i]);
        }
    }

    static void promise24_leastAndGreatestValuesAreTaken() {
        for (int i = 0; i < 9; i++) {
            Bench x = new Bench();
            Checks.due(x.setEntry(i / 3, i % 3, 0), FIRST_TABLE[i]);
            Checks.due(x.setEntry(i / 3, i % 3, 2), 0);
            Checks.due(x.setEntry(i / 3, i % 3, 1), 2);
            Checks.due(x.setEntry(i / 3, i % 3, 1), 1);
        }
    }

    static void promise24_eachEntryStandsAlone() {
        Bench x = new Bench();
        for (int i = 0; i < 9; i++) {
            x.setEntry(i / 3, i % 3, 2 - FIRST_TABLE[i]);
        }
        for (int i = 0; i < 9; i++) {
            Checks.due(x.setEntry(i / 3, i % 3, 0), 2 - FIRST_TABLE[i]);
        }
    }

    static void promise24_xOutsideIsNoSuchElement() {
        for (int value : NO_VALUES) {
            Checks.due(new Bench().setEntry(value, 0, 0), Checks.NO_SUCH);
        }
    }

    static void promise24_yOutsideIsNoSuchElement() {
        for (int value : NO_VALUES) {
            Checks.due(new Bench().setEntry(0, value, 0), Checks.NO_SUCH);
        }
    }

    static void promise24_valueOutsideIsBadValue() {
        for (int value : NO_VALUES) {
            Checks.due(new Bench().setEntry(0, 0, value), Checks.BAD);
            Checks.due(new Bench().setEntry(2, 2, value), Checks.BAD);
        }
    }

    static void promise24_noSuchElementIsCheckedBeforeBadValue() {
        Bench x = new Bench();
        Checks.due(x.setEntry(3, 0, 3), Checks.NO_SUCH);
        Checks.due(x.setEntry(0, 3, 3), Checks.NO_SUCH);
        Checks.due(x.setEntry(-1, -1, -1), Checks.NO_SUCH);
    }

    static void promise24_refusalsLeaveAll() {
        Checks.leavesAll(Checks::busy, x -> x.setEntry(3, 0, 1), Checks.NO_SUCH);
        Checks.leavesAll(Checks::busy, x -> x.setEntry(0, -1, 1), Checks.NO_SUCH);
        Checks.leavesAll(Checks::busy, x -> x.setEntry(0, 0, 3), Checks.BAD);
        Checks.leavesAll(Checks::busy, x -> x.setEntry(0, 0, -1), Checks.BAD);
    }

    static void promise24_onlyTheEntryChanges() {
        Checks.same(Checks::busy, x -> {
            Checks.busy(x);
            x.setEntry(2, 1, 2);
            x.setEntry(2, 1, 1);
        });
    }

    // ---- promise 25 ----

    static void promise25_firstDesignatedValues() {
        Checks.due(new Bench().setDesignated(0), 4);
    }

    static void promise25_values0To7AreTaken() {
        Bench x = new Bench();
        int before = 4;
        for (int values = 0; values <= 7; values++) {
            Checks.due(x.setDesignated(values), before);
            before = values;
        }
        Checks.due(x.setDesignated(7), 7);
    }

    static void promise25_valuesOutsideAreBadValue() {
        Bench x = new Bench();
        for (int values : new int[] {-1, 8, 9, 15, Checks.MIN, Checks.MAX}) {
            Checks.due(x.setDesignated(values), Checks.BAD);
        }
        Checks.due(x.setDesignated(0), 4);
    }

    static void promise25_badValueLeavesAll() {
        Checks.leavesAll(Checks::busy, x -> x.setDesignated(-1), Checks.BAD);
        Checks.leavesAll(Checks::busy, x -> x.setDesignated(8), Checks.BAD);
    }

    static void promise25_onlyTheDesignatedValuesChange() {
        Checks.same(Checks::busy, x -> {
            Checks.busy(x);
            x.setDesignated(1);
            x.setDesignated(6);
        });
    }

    // ---- promise 26 ----

    static void promise26_firstMatrixIsNormal() {
        Checks.due(new Bench().isNormal(), 1);
    }

    static void promise26_noDesignatedValueIsNormal() {
        Bench x = new Bench();
        x.setEntry(2, 0, 2);
        x.setDesignated(0);
        Checks.due(x.isNormal(), 1);
    }

    static void promise26_allDesignatedValuesAreNormal() {
        Bench x = new Bench();
        x.setEntry(2, 0, 2);
        x.setDesignated(7);
        Checks.due(x.isNormal(), 1);
    }

    static void promise26_oneEntryDecides() {
        for (int values = 0; values <= 7; values++) {
            for (int i = 0; i < 9; i++) {
                Bench x = new Bench();
                takeTheRight(x);
                x.setDesignated(values);
                Checks.due(x.isNormal(), 1);
                int good = (values & 1) != 0 ? 0 : (values & 2) != 0 ? 1 : 2;
                x.setEntry(i / 3, i % 3, good);
                boolean breaks = values != 0 && (values >> i / 3 & 1) == 1 && (values >> i % 3 & 1) == 0;
                Checks.due(x.isNormal(), breaks ? 0 : 1);
            }
        }
    }

    static void promise26_leavesAll() {
        Checks.leavesAll(Checks::busy, x -> x.isNormal(), 1);
    }

    // ---- promise 27 ----

    static void promise27_numbersOutsideAreNoSuchElement() {
        Bench x = new Bench();
        Checks.busy(x);
        for (int number : OUTSIDE) {
            Checks.due(x.isValid(number), Checks.NO_SUCH);
        }
        Checks.due(new Bench().isValid(0), Checks.NO_SUCH);
    }

    static void promise27_variables8AreTaken() {
        Checks.due(withMany().isValid(0), 0);
        Checks.due(Bench.with(Checks.chain(7, "Chh")).isValid(0), 1);
    }

    static void promise27_variables9AreTooLarge() {
        Checks.due(withMany().isValid(1), Checks.LARGE);
        Checks.due(Bench.with(Checks.chain(8, "Cii")).isValid(0), Checks.LARGE);
        Checks.due(Bench.with(Checks.chain(11, "l")).isValid(0), Checks.LARGE);
    }

    static void promise27_variables9AreTooLargeWhateverIsDesignated() {
        Bench x = withMany();
        x.setDesignated(0);
        Checks.due(x.isValid(1), Checks.LARGE);
        x.setDesignated(7);
        Checks.due(x.isValid(1), Checks.LARGE);
    }

    static void promise27_noDesignatedValueMakesNoFormulaValid() {
        Bench x = Bench.with("Caa", "CaCba", "a");
        x.setDesignated(0);
        for (int i = 0; i < 3; i++) {
            Checks.due(x.isValid(i), 0);
        }
    }

    static void promise27_allDesignatedValuesMakeAllFormulasValid() {
        Bench x = Bench.with("a", "Cab", Checks.chain(7, "h"));
        x.setDesignated(7);
        for (int i = 0; i < 3; i++) {
            Checks.due(x.isValid(i), 1);
        }
    }

    static void promise27_firstValuationRefutes() {
        Bench x = withMany();
        takeTheLess(x);
        x.setDesignated(6);
        Checks.due(x.isValid(0), 0);
    }

    static void promise27_lastValuationAloneRefutes() {
        Bench x = withMany();
        takeTheLess(x);
        x.setDesignated(3);
        Checks.due(x.isValid(0), 0);
    }

    static void promise27_formulaOfTheGreatestSize() {
        Bench x = Bench.with(Checks.leftFormula(39), "Ca".repeat(19) + "a", Checks.leftFormula(37));
        Checks.due(x.isValid(0), 1);
        Checks.due(x.isValid(1), 1);
        Checks.due(x.isValid(2), 0);
    }

    static void promise27_leavesAll() {
        Checks.leavesAll(Checks::busy, x -> x.isValid(4), Checks.NO_SUCH);
        Checks.leavesAll(Checks::busy, x -> x.isValid(3), 1);
        Checks.leavesAll(x -> {
            x.axiom(Checks.chain(8, "i"));
            x.setDesignated(3);
            x.writeFormula(0);
        }, x -> x.isValid(0), Checks.LARGE);
    }

    // ---- promise 28 ----

    static void promise28_numbersOutsideAreNoSuchElement() {
        Bench x = new Bench();
        Checks.busy(x);
        for (int number : OUTSIDE) {
            Checks.due(x.refutation(number, 0), Checks.NO_SUCH);
        }
        Checks.due(new Bench().refutation(0, 0), Checks.NO_SUCH);
    }

    static void promise28_variablesOutsideAreNoSuchElement() {
        Bench x = Bench.with("Cab", "a");
        for (int variable : new int[] {-1, 2, 3, 8, 12, Checks.MIN, Checks.MAX}) {
            Checks.due(x.refutation(0, variable), Checks.NO_SUCH);
        }
        Checks.due(x.refutation(1, 0), 0);
        Checks.due(x.refutation(1, 1), Checks.NO_SUCH);
    }

    static void promise28_firstAndLastVariable() {
        Bench x = Bench.with("Cab");
        Checks.due(x.refutation(0, 0), 1);
        Checks.due(x.refutation(0, 1), 0);
    }

    static void promise28_noSuchVariableIsCheckedBeforeTooLarge() {
        Bench x = withMany();
        Checks.due(x.refutation(1, 9), Checks.NO_SUCH);
        Checks.due(x.refutation(1, -1), Checks.NO_SUCH);
        Checks.due(x.refutation(1, 8), Checks.LARGE);
        Checks.due(x.refutation(1, 0), Checks.LARGE);
    }

    static void promise28_noSuchVariableIsCheckedBeforeNone() {
        Bench x = Bench.with("Caa");
        Checks.due(x.refutation(0, 1), Checks.NO_SUCH);
        Checks.due(x.refutation(0, 0), Checks.NONE);
    }

    static void promise28_tooLargeIsCheckedBeforeNone() {
        Bench x = Bench.with(Checks.chain(8, "Cii"), Checks.chain(7, "Chh"));
        Checks.due(x.refutation(0, 0), Checks.LARGE);
        Checks.due(x.refutation(1, 0), Checks.NONE);
    }

    static void promise28_validFormulaHasNone() {
        Bench x = Bench.with("Caa", "Cab");
        Checks.due(x.refutation(0, 0), Checks.NONE);
        x.setDesignated(7);
        Checks.due(x.refutation(1, 0), Checks.NONE);
        Checks.due(x.refutation(1, 1), Checks.NONE);
    }

    static void promise28_noDesignatedValueIsRefutedByZeros() {
        Bench x = Bench.with("Caa", Checks.chain(7, "h"));
        x.setDesignated(0);
        Checks.due(x.refutation(0, 0), 0);
        for (int variable = 0; variable < 8; variable++) {
            Checks.due(x.refutation(1, variable), 0);
        }
    }

    static void promise28_variables8AreTaken() {
        Bench x = withMany();
        for (int variable = 0; variable < 8; variable++) {
            Checks.due(x.refutation(0, variable), variable == 0 ? 1 : variable == 7 ? 0 : 2);
        }
        Checks.due(x.refutation(0, 8), Checks.NO_SUCH);
    }

    static void promise28_lastValuationAloneRefutes() {
        Bench x = withMany();
        takeTheLess(x);
        x.setDesignated(3);
        for (int variable = 0; variable < 8; variable++) {
            Checks.due(x.refutation(0, variable), 2);
        }
    }

    static void promise28_firstInLexicographicOrder() {
        Bench x = Bench.with("Cab");
        takeTheRight(x);
        x.setDesignated(3);
        Checks.due(x.refutation(0, 0), 0);
        Checks.due(x.refutation(0, 1), 2);
        takeTheLess(x);
        x.setDesignated(5);
        Checks.due(x.refutation(0, 0), 1);
        Checks.due(x.refutation(0, 1), 1);
    }

    static void promise28_earlierQuestionsDoNotMatter() {
        Bench x = Bench.with("Cab", "a");
        Checks.due(x.refutation(0, 0), 1);
        Checks.due(x.refutation(1, 0), 0);
        Checks.due(x.isValid(0), 0);
        Checks.due(x.refutation(1, 0), 0);
        Checks.due(x.isValid(0), 0);
        Checks.due(x.countValuations(0, 1), 2);
        x.setDesignated(5);
        Checks.due(x.refutation(0, 0), 1);
        Checks.due(x.refutation(0, 1), 0);
        Checks.due(x.refutation(1, 0), 1);
    }

    static void promise28_leavesAll() {
        Checks.leavesAll(Checks::busy, x -> x.refutation(4, 0), Checks.NO_SUCH);
        Checks.leavesAll(Checks::busy, x -> x.refutation(3, 1), Checks.NO_SUCH);
        Checks.leavesAll(Checks::busy, x -> x.refutation(3, 0), Checks.NONE);
        Checks.leavesAll(x -> {
            x.axiom(Checks.chain(8, "i"));
            x.setDesignated(3);
            x.writeFormula(0);
        }, x -> x.refutation(0, 0), Checks.LARGE);
    }

    // ---- promise 29 ----

    static void promise29_numbersOutsideAreNoSuchElement() {
        Bench x = new Bench();
        Checks.busy(x);
        for (int number : OUTSIDE) {
            Checks.due(x.countValuations(number, 0), Checks.NO_SUCH);
        }
        Checks.due(new Bench().countValuations(0, 0), Checks.NO_SUCH);
    }

    static void promise29_valuesOutsideAreNoSuchElement() {
        Bench x = Bench.with("Cab");
        for (int value : NO_VALUES) {
            Checks.due(x.countValuations(0, value), Checks.NO_SUCH);
        }
    }

    static void promise29_noSuchValueIsCheckedBeforeTooLarge() {
        Bench x = withMany();
        Checks.due(x.countValuations(1, 3), Checks.NO_SUCH);
        Checks.due(x.countValuations(1, -1), Checks.NO_SUCH);
        Checks.due(x.countValuations(1, 2), Checks.LARGE);
        Checks.due(x.countValuations(1, 0), Checks.LARGE);
    }

    static void promise29_leastAndGreatestValue() {
        Bench x = Bench.with("Cab");
        Checks.due(x.countValuations(0, 0), 1);
        Checks.due(x.countValuations(0, 1), 2);
        Checks.due(x.countValuations(0, 2), 6);
    }

    static void promise29_oneVariableHas3Valuations() {
        Bench x = Bench.with("a", "Caa");
        for (int value = 0; value < 3; value++) {
            Checks.due(x.countValuations(0, value), 1);
            Checks.due(x.countValuations(1, value), value == 2 ? 3 : 0);
        }
    }

    static void promise29_variables8Have6561Valuations() {
        Bench x = withMany();
        Checks.due(x.countValuations(0, 0), 1);
        Checks.due(x.countValuations(0, 0) + x.countValuations(0, 1) + x.countValuations(0, 2), 6561);
        takeTheRight(x);
        for (int value = 0; value < 3; value++) {
            Checks.due(x.countValuations(0, value), 2187);
        }
        takeTheLess(x);
        Checks.due(x.countValuations(0, 2), 1);
        Checks.due(x.countValuations(0, 1), 255);
        Checks.due(x.countValuations(0, 0), 6305);
    }

    static void promise29_variables9AreTooLarge() {
        Checks.due(withMany().countValuations(1, 0), Checks.LARGE);
        Checks.due(Bench.with(Checks.chain(11, "l")).countValuations(0, 0), Checks.LARGE);
    }

    static void promise29_designatedValuesDoNotMatter() {
        Bench x = Bench.with("Cab");
        x.setDesignated(0);
        Checks.due(x.countValuations(0, 2), 6);
        x.setDesignated(7);
        Checks.due(x.countValuations(0, 2), 6);
    }

    static void promise29_leavesAll() {
        Checks.leavesAll(Checks::busy, x -> x.countValuations(4, 0), Checks.NO_SUCH);
        Checks.leavesAll(Checks::busy, x -> x.countValuations(3, 3), Checks.NO_SUCH);
        Checks.leavesAll(Checks::busy, x -> x.countValuations(3, 2), 3);
        Checks.leavesAll(x -> {
            x.axiom(Checks.chain(8, "i"));
            x.setDesignated(3);
            x.writeFormula(0);
        }, x -> x.countValuations(0, 0), Checks.LARGE);
    }
}
