/** The boundary cases of the promises 4 to 8: addAxiom, detach, prove, cut and listSize. */
public final class ListBoundariesTest {
    /** What D makes of it and Caa..a with 19 letters has 39 letters. */
    private static final String DOUBLE = "CaCaa";
    /** What D makes of it and Caa..a with 19 letters has 41 letters. */
    private static final String DOUBLE_AND_TWO = "CaCbCaa";
    /** Each of four variables stands for twice the one before, and one more in MINOR_GROWTH for the last. */
    private static final String MAJOR_GROWTH = "CaCCaaCbCCbbCcCCccCdCCdde";
    private static final String MINOR_GROWTH = "CaCbCbCcCcCdCdCee";

    public static void main(String[] args) {
        Checks.run(ListBoundariesTest.class);
    }

    private static int axiom(String text) {
        return new Bench().axiom(text);
    }

    /** A list of 59 formulas. */
    private static void oneFree(Bench x) {
        Checks.full(x);
        x.cut(59);
        x.clearText();
    }

    // ---- promise 4: the grammar ----

    static void promise04_lettersAToZAreVariables() {
        for (char letter = 'a'; letter <= 'z'; letter++) {
            Checks.due(axiom("" + letter), 0);
        }
    }

    static void promise04_signBeforeAIsAnError() {
        Checks.due(axiom("`"), -100);
    }

    static void promise04_signBehindZIsAnError() {
        Checks.due(axiom("{"), -100);
    }

    static void promise04_allOtherSignsAreErrors() {
        for (char sign = 33; sign <= 126; sign++) {
            if (sign != 'C' && (sign < 'a' || sign > 'z')) {
                Checks.due(axiom("" + sign), -100);
                Checks.due(axiom("Ca" + sign), -102);
            }
        }
    }

    static void promise04_emptyTextEndsTooEarly() {
        Checks.due(axiom(""), -100);
    }

    static void promise04_textThatEndsTooEarlyHasItsErrorAtItsLength() {
        Checks.due(axiom("C"), -101);
        Checks.due(axiom("Ca"), -102);
        Checks.due(axiom("CCab"), -104);
    }

    static void promise04_fullTextThatEndsTooEarly() {
        Checks.due(axiom("C".repeat(80)), -180);
        Checks.due(axiom("C".repeat(40) + "a".repeat(40)), -180);
    }

    static void promise04_firstOf80SignsIsWrong() {
        Checks.due(axiom("1" + "C".repeat(79)), -100);
    }

    static void promise04_lastOf80SignsIsWrong() {
        Checks.due(axiom("C".repeat(79) + "1"), -179);
    }

    static void promise04_firstOfTwoErrorsCounts() {
        Checks.due(axiom("C1C2"), -101);
    }

    static void promise04_signBehindAWholeFormulaIsAnErrorThere() {
        Checks.due(axiom("aa"), -101);
        Checks.due(axiom("aC"), -101);
        Checks.due(axiom("Caba"), -103);
        Checks.due(axiom("Cab1"), -103);
    }

    static void promise04_sign80BehindAWholeFormulaOf79() {
        Checks.due(axiom(Checks.leftFormula(79) + "a"), -179);
    }

    // ---- promise 4: the size ----

    static void promise04_size1IsTaken() {
        Bench x = new Bench();
        Checks.due(x.axiom("q"), 0);
        Checks.due(x.formulaSize(0), 1);
        Checks.due(x.formula(0), "a");
    }

    static void promise04_size39IsTaken() {
        Bench x = new Bench();
        Checks.due(x.axiom(Checks.leftFormula(39)), 0);
        Checks.due(x.formulaSize(0), 39);
    }

    static void promise04_size41IsTooLarge() {
        Checks.due(axiom(Checks.leftFormula(41)), Checks.LARGE);
        Checks.due(axiom("Ca".repeat(20) + "a"), Checks.LARGE);
    }

    static void promise04_size79IsTooLarge() {
        Checks.due(axiom(Checks.leftFormula(79)), Checks.LARGE);
    }

    static void promise04_variables12AreTaken() {
        Bench x = new Bench();
        Checks.due(x.axiom(Checks.chain(11, "z")), 0);
        Checks.due(x.variableCount(0), 12);
        Checks.due(x.formula(0), Checks.chain(11, "l"));
    }

    static void promise04_variables12OfSize39AreTaken() {
        Checks.due(axiom(Checks.chain(11, "Ca".repeat(8) + "l")), 0);
    }

    static void promise04_variables13AreTooLarge() {
        Checks.due(axiom(Checks.chain(12, "z")), Checks.LARGE);
    }

    static void promise04_variables26AreTooLarge() {
        Checks.due(axiom(Checks.chain(25, "z")), Checks.LARGE);
    }

    // ---- promise 4: the list ----

    static void promise04_firstFormulaHasTheNumber0() {
        Checks.due(axiom("Cab"), 0);
    }

    static void promise04_formula60HasTheNumber59() {
        Bench x = new Bench();
        x.fillWithTypes(59);
        Checks.due(x.axiom("a"), 59);
        Checks.due(x.listSize(), 60);
    }

    static void promise04_formula61IsFull() {
        Bench x = new Bench();
        x.fillWithTypes(60);
        Checks.due(x.axiom("a"), Checks.FULL);
        Checks.due(x.listSize(), 60);
    }

    static void promise04_variantOfAnyFormulaOfAFullListIsFound() {
        Bench x = new Bench();
        x.fillWithTypes(60);
        Checks.due(x.axiom("CzCyz"), 0);
        Checks.due(x.axiom("CCCxyCyzCCxyCxz"), 59);
        Checks.due(x.listSize(), 60);
    }

    static void promise04_variantIsNotAppended() {
        Bench x = Bench.with("CpCqp", "CpCqq");
        Checks.due(x.axiom("CqCpq"), 0);
        Checks.due(x.axiom("CzCaa"), 1);
        Checks.due(x.listSize(), 2);
    }

    static void promise04_renamingThatIsNotOneToOneIsNoVariant() {
        Bench x = Bench.with("Cpq", "Cpp");
        Checks.due(x.listSize(), 2);
        Checks.due(x.axiom("CCpqq"), 2);
        Checks.due(x.axiom("CCpqr"), 3);
        Checks.due(x.axiom("CCqpq"), 4);
    }

    static void promise04_newFormulaIsAnAxiom() {
        Bench x = Bench.with("CaCba");
        x.detach(0, 0);
        Checks.due(x.axiom("CaCbCca"), 2);
        Checks.due(x.majorOf(2), Checks.NONE);
        Checks.due(x.minorOf(2), Checks.NONE);
    }

    static void promise04_variantOfADerivedFormulaLeavesItDerived() {
        Bench x = Bench.with("CaCba");
        Checks.due(x.detach(0, 0), 1);
        Checks.due(x.axiom("CcCbCab"), 1);
        Checks.due(x.majorOf(1), 0);
        Checks.due(x.proofSize(1), 1);
        Checks.due(x.shortest(1, 4), 1);
    }

    static void promise04_formulaThatWasCutIsNew() {
        Bench x = Bench.with("a", "Cab");
        x.cut(1);
        Checks.due(x.axiom("Cab"), 1);
        x.cut(0);
        Checks.due(x.axiom("Cab"), 0);
    }

    // ---- promise 4: the order of the checks, and what stands ----

    static void promise04_grammarIsCheckedBeforeTooLarge() {
        Checks.due(axiom(Checks.leftFormula(41) + "a"), -141);
        Checks.due(axiom(Checks.chain(13, "1")), -126);
        Checks.due(axiom("C".repeat(41) + "a".repeat(39)), -180);
    }

    static void promise04_grammarIsCheckedBeforeFull() {
        Bench x = new Bench();
        x.fillWithTypes(60);
        Checks.due(x.axiom("C"), -101);
        Checks.due(x.axiom("aa"), -101);
    }

    static void promise04_tooLargeIsCheckedBeforeFull() {
        Bench x = new Bench();
        x.fillWithTypes(60);
        Checks.due(x.axiom(Checks.leftFormula(41)), Checks.LARGE);
        Checks.due(x.axiom(Checks.chain(12, "z")), Checks.LARGE);
        Checks.due(x.axiom(Checks.leftFormula(39)), Checks.FULL);
        Checks.due(x.axiom(Checks.chain(11, "z")), Checks.FULL);
    }

    static void promise04_grammarErrorEmptiesTheTextOnly() {
        Checks.emptiesTextOnly(Checks::busy, x -> x.addAxiom(), -100);
    }

    static void promise04_tooLargeEmptiesTheTextOnly() {
        Checks.emptiesTextOnly(x -> {
            Checks.busy(x);
            x.clearText();
            x.type(Checks.leftFormula(41));
        }, x -> x.addAxiom(), Checks.LARGE);
    }

    static void promise04_fullEmptiesTheTextOnly() {
        Checks.emptiesTextOnly(x -> {
            Checks.full(x);
            x.clearText();
            x.type("a");
        }, x -> x.addAxiom(), Checks.FULL);
    }

    static void promise04_variantEmptiesTheTextOnly() {
        Checks.emptiesTextOnly(x -> {
            Checks.busy(x);
            x.clearText();
            x.type("Czz");
        }, x -> x.addAxiom(), 3);
    }

    static void promise04_newFormulaEmptiesTheText() {
        Bench x = new Bench();
        Checks.due(x.axiom("Cab"), 0);
        Checks.due(x.clearText(), 0);
    }

    // ---- promise 5 ----

    static void promise05_firstAndLastNumberAreTaken() {
        Bench x = Bench.with("CaCba", "Caa");
        Checks.due(x.detach(1, 0), 0);
        Checks.due(x.detach(1, 1), 1);
        Checks.due(x.detach(0, 1), 2);
    }

    static void promise05_numbersOutsideAreNoSuchElement() {
        Bench x = Bench.with("CaCba", "Caa");
        for (int number : new int[] {-1, 2, 59, 60, -4, Checks.MIN, Checks.MAX}) {
            Checks.due(x.detach(number, 0), Checks.NO_SUCH);
            Checks.due(x.detach(0, number), Checks.NO_SUCH);
            Checks.due(x.detach(number, number), Checks.NO_SUCH);
        }
    }

    static void promise05_emptyListHasNoFormula() {
        Checks.due(new Bench().detach(0, 0), Checks.NO_SUCH);
    }

    static void promise05_formulaThatWasCutIsNoSuchElement() {
        Bench x = Bench.with("CaCba", "Caa");
        x.cut(1);
        Checks.due(x.detach(0, 1), Checks.NO_SUCH);
        Checks.due(x.detach(1, 0), Checks.NO_SUCH);
    }

    static void promise05_formulas59And60OfAFullList() {
        Bench x = new Bench();
        x.fillWithTypes(60);
        Checks.due(x.detach(5, 59), 59);
        Checks.due(x.detach(5, 60), Checks.NO_SUCH);
        Checks.due(x.detach(60, 5), Checks.NO_SUCH);
    }

    static void promise05_noSuchElementIsCheckedBeforeNone() {
        Bench x = Bench.with("a");
        Checks.due(x.detach(0, 1), Checks.NO_SUCH);
        Checks.due(x.detach(0, -1), Checks.NO_SUCH);
        Checks.due(x.detach(0, 0), Checks.NONE);
    }

    static void promise05_majorThatIsAVariableHasNoResult() {
        Bench x = Bench.with("a", "Caa");
        Checks.due(x.detach(0, 0), Checks.NONE);
        Checks.due(x.detach(0, 1), Checks.NONE);
    }

    static void promise05_minorThatIsAVariableHasAResult() {
        Bench x = Bench.with("a", "CCaab");
        Checks.due(x.detach(1, 0), 0);
    }

    static void promise05_variableInItselfHasNoResult() {
        Bench x = Bench.with("CCaCabb", "CCabCab", "CCaab", "CaCab");
        Checks.due(x.detach(0, 1), Checks.NONE);
        Checks.due(x.detach(2, 3), Checks.NONE);
    }

    static void promise05_sameFormulaTwiceHasVariablesOfItsOwn() {
        Bench x = Bench.with("CaCba");
        Checks.due(x.detach(0, 0), 1);
        Checks.due(x.formula(1), "CaCbCcb");
    }

    static void promise05_size39IsTaken() {
        Bench x = Bench.with(DOUBLE, Checks.leftFormula(19));
        Checks.due(x.detach(0, 1), 2);
        Checks.due(x.formulaSize(2), 39);
    }

    static void promise05_size41IsTooLarge() {
        Bench x = Bench.with(DOUBLE_AND_TWO, Checks.leftFormula(19));
        Checks.due(x.detach(0, 1), Checks.LARGE);
        Checks.due(x.listSize(), 2);
    }

    static void promise05_variables12AreTaken() {
        Bench x = Bench.with("CaCba", Checks.chain(10, "z"));
        Checks.due(x.detach(0, 1), 2);
        Checks.due(x.variableCount(2), 12);
    }

    static void promise05_variables13AreTooLarge() {
        Bench x = Bench.with("CaCbCca", Checks.chain(10, "z"));
        Checks.due(x.detach(0, 1), Checks.LARGE);
        Checks.due(x.listSize(), 2);
    }

    static void promise05_onlyTheResultMustNotBeTooLarge() {
        Bench x = Bench.with("C" + MAJOR_GROWTH + "f", MINOR_GROWTH, "C" + MAJOR_GROWTH + "e", "C" + MAJOR_GROWTH + "Cee");
        Checks.due(x.detach(0, 1), 4);
        Checks.due(x.formula(4), "a");
        Checks.due(x.detach(2, 1), 5);
        Checks.due(x.formulaSize(5), 31);
        Checks.due(x.detach(3, 1), Checks.LARGE);
    }

    static void promise05_noneIsCheckedBeforeTooLarge() {
        String clash = MAJOR_GROWTH.replace('e', 'a');
        Bench x = Bench.with("C" + clash + "CCddCdd", MINOR_GROWTH, "C" + MAJOR_GROWTH + "CCddCdd");
        Checks.due(x.detach(0, 1), Checks.NONE);
        Checks.due(x.detach(2, 1), Checks.LARGE);
    }

    static void promise05_noneIsCheckedBeforeFull() {
        Bench x = new Bench();
        x.fillWithTypes(60);
        Checks.due(x.detach(4, 1), Checks.NONE);
    }

    static void promise05_tooLargeIsCheckedBeforeFull() {
        Bench x = new Bench();
        x.fillWithTypes(60);
        Checks.due(x.detach(1, 48), Checks.LARGE);
    }

    static void promise05_formula60IsTakenAndFormula61IsFull() {
        Bench x = new Bench();
        x.fillWithTypes(59);
        Checks.due(x.detach(1, 23), 59);
        Checks.due(x.detach(1, 0), Checks.FULL);
    }

    static void promise05_oldResultForAFullListIsFound() {
        Bench x = new Bench();
        x.fillWithTypes(60);
        Checks.due(x.detach(0, 0), 6);
        Checks.due(x.detach(1, 23), 59);
        Checks.due(x.detach(5, 0), 0);
    }

    static void promise05_resultThatIsAnAxiomLeavesItAnAxiom() {
        Bench x = Bench.with("CaCba", "CaCbCcb");
        Checks.due(x.detach(0, 0), 1);
        Checks.due(x.majorOf(1), Checks.NONE);
    }

    static void promise05_noSuchElementLeavesAll() {
        Checks.leavesAll(Checks::busy, x -> x.detach(0, 4), Checks.NO_SUCH);
    }

    static void promise05_noneLeavesAll() {
        Checks.leavesAll(x -> {
            x.axiom("CCaab");
            x.axiom("CaCab");
            x.type("K(SI)");
            x.writeFormula(1);
        }, x -> x.detach(0, 1), Checks.NONE);
    }

    static void promise05_tooLargeLeavesAll() {
        Checks.leavesAll(Checks::full, x -> x.detach(1, 48), Checks.LARGE);
    }

    static void promise05_fullLeavesAll() {
        Checks.leavesAll(Checks::full, x -> x.detach(1, 0), Checks.FULL);
    }

    static void promise05_oldResultLeavesAll() {
        Checks.leavesAll(Checks::busy, x -> x.detach(3, 0), 0);
    }

    // ---- promise 6: the grammar ----

    static void promise06_emptyTextEndsTooEarly() {
        Checks.due(Bench.with("CaCba").proof(""), -100);
    }

    static void promise06_textThatEndsTooEarlyHasItsErrorAtItsLength() {
        Bench x = Bench.with("CaCba");
        Checks.due(x.proof("D"), -101);
        Checks.due(x.proof("D1"), -102);
        Checks.due(x.proof("DD11"), -104);
    }

    static void promise06_fullTextThatEndsTooEarly() {
        Checks.due(Bench.with("Caa").proof("D".repeat(80)), -180);
        Checks.due(Bench.with("Caa").proof("D".repeat(40) + "1".repeat(40)), -180);
    }

    static void promise06_proofOf79SignsIsTaken() {
        Bench x = Bench.with("Caa");
        Checks.due(x.proof("D".repeat(39) + "1".repeat(40)), 0);
        Checks.due(x.proof("D1".repeat(39) + "1"), 0);
    }

    static void promise06_signBehindAWholeProofIsAnErrorThere() {
        Bench x = Bench.with("Caa");
        Checks.due(x.proof("11"), -101);
        Checks.due(x.proof("D11D"), -103);
        Checks.due(x.proof("D".repeat(39) + "1".repeat(41)), -179);
    }

    static void promise06_allOtherSignsAreErrors() {
        Bench x = new Bench();
        x.fillWithTypes(10);
        for (char sign = 33; sign <= 126; sign++) {
            if (sign != 'D' && (sign < '1' || sign > '9')) {
                Checks.due(x.proof("D" + sign), -101);
            }
        }
    }

    static void promise06_signsBesideTheDigitsAreErrors() {
        Bench x = new Bench();
        x.fillWithTypes(60);
        Checks.due(x.proof("0"), -100);
        Checks.due(x.proof(":"), -100);
        Checks.due(x.proof("/"), -100);
    }

    static void promise06_digitsOfTheListAreTakenAndTheNextIsNot() {
        for (int size = 0; size <= 10; size++) {
            Bench x = new Bench();
            x.fillWithTypes(size);
            for (int digit = 1; digit <= 9; digit++) {
                Checks.due(x.proof("" + digit), digit <= size ? digit - 1 : -100);
            }
        }
    }

    static void promise06_digit9OfAFullListIsFormula8() {
        Bench x = new Bench();
        x.fillWithTypes(60);
        Checks.due(x.proof("9"), 8);
        Checks.due(x.proof("D69"), 8);
    }

    static void promise06_digitOfAFormulaThatTheProofItselfWouldEnterIsAnError() {
        Bench x = Bench.with("CaCba");
        Checks.due(x.proof("D1D11"), 2);
        x.cut(1);
        Checks.due(x.proof("DD112"), -104);
        Checks.due(x.listSize(), 1);
    }

    static void promise06_grammarIsCheckedBeforeAllElse() {
        Bench x = Bench.with("a");
        Checks.due(x.proof("D111"), -103);
        Checks.due(x.proof("D1"), -102);
        Checks.due(x.proof("D12"), -102);
        Checks.due(x.proof("D11"), Checks.NONE);
        Bench y = new Bench();
        y.fillWithTypes(60);
        Checks.due(y.proof("D210"), -103);
        Checks.due(y.proof("D21"), Checks.FULL);
    }

    // ---- promise 6: the results ----

    static void promise06_digitEntersNothing() {
        Bench x = Bench.with("CaCba", "Caa");
        Checks.due(x.proof("1"), 0);
        Checks.due(x.proof("2"), 1);
        Checks.due(x.listSize(), 2);
    }

    static void promise06_digitOfAFullListIsFound() {
        Bench x = new Bench();
        x.fillWithTypes(60);
        Checks.due(x.proof("1"), 0);
        Checks.due(x.listSize(), 60);
    }

    static void promise06_majorPartIsEnteredBeforeTheMinorOne() {
        Bench x = Bench.with("CaCba", "CCaCbcCCabCac");
        Checks.due(x.proof("DD12D21"), 1);
        Checks.due(x.listSize(), 4);
        Checks.due(x.majorOf(2), 0);
        Checks.due(x.minorOf(2), 1);
        Checks.due(x.majorOf(3), 1);
        Checks.due(x.minorOf(3), 0);
    }

    static void promise06_partIsEnteredBeforeTheWhole() {
        Bench x = Bench.with("CaCba");
        Checks.due(x.proof("D1D1D11"), 3);
        Checks.due(x.formula(1), "CaCbCcb");
        Checks.due(x.formula(2), "CaCbCcCdc");
        Checks.due(x.formula(3), "CaCbCcCdCed");
    }

    static void promise06_sameResultTwiceIsEnteredOnce() {
        Bench x = Bench.with("CaCba");
        Checks.due(x.proof("DD11D11"), 0);
        Checks.due(x.listSize(), 2);
    }

    static void promise06_resultThatIsAnAxiomLeavesItAnAxiom() {
        Bench x = Bench.with("CaCba", "CaCbCcb");
        Checks.due(x.proof("D11"), 1);
        Checks.due(x.majorOf(1), Checks.NONE);
    }

    static void promise06_exactlyFullIsTaken() {
        Bench x = new Bench();
        x.fillWithTypes(58);
        Checks.due(x.proof("DD21D22"), 59);
    }

    static void promise06_oneMoreThanFullIsFull() {
        Bench x = new Bench();
        x.fillWithTypes(59);
        Checks.due(x.proof("D2D21"), Checks.FULL);
        Checks.due(x.listSize(), 59);
        Checks.due(x.proof("D21"), 59);
        Checks.due(x.listSize(), 60);
    }

    static void promise06_oldResultsForAFullListAreFound() {
        Bench x = new Bench();
        x.fillWithTypes(60);
        Checks.due(x.proof("D1D11"), 27);
        Checks.due(x.proof("DD11D11"), 0);
        Checks.due(x.listSize(), 60);
    }

    static void promise06_majorThatIsAVariableIsNone() {
        Checks.due(Bench.with("a", "Cab").proof("D12"), Checks.NONE);
        Checks.due(Bench.with("a", "Cab").proof("DD211"), Checks.NONE);
    }

    static void promise06_size39IsTakenAndSize41IsTooLarge() {
        Bench x = Bench.with(DOUBLE, DOUBLE_AND_TWO, Checks.leftFormula(19));
        Checks.due(x.proof("D13"), 3);
        Checks.due(x.proof("D23"), Checks.LARGE);
    }

    static void promise06_variables12AreTakenAnd13AreTooLarge() {
        Bench x = Bench.with("CaCba", "CaCbCca", Checks.chain(10, "z"));
        Checks.due(x.proof("D13"), 3);
        Checks.due(x.proof("D23"), Checks.LARGE);
    }

    static void promise06_firstDThatFailsDecides() {
        Bench x = Bench.with("CaCba", "p", DOUBLE_AND_TWO, Checks.leftFormula(19));
        Checks.due(x.proof("DD21D34"), Checks.NONE);
        Checks.due(x.proof("DD34D21"), Checks.LARGE);
        Bench y = new Bench();
        y.fillWithTypes(60);
        Checks.due(y.proof("DD21D52"), Checks.FULL);
        Checks.due(y.proof("DD52D21"), Checks.NONE);
        Checks.due(y.proof("DD21D2D2D22"), Checks.FULL);
        Checks.due(y.proof("DD2D2D22D21"), Checks.LARGE);
    }

    // ---- promise 6: what stands ----

    static void promise06_grammarErrorEmptiesTheTextOnly() {
        Checks.emptiesTextOnly(Checks::busy, x -> x.prove(), -100);
    }

    static void promise06_noneLeavesTheListAsBefore() {
        Checks.emptiesTextOnly(x -> {
            Checks.busy(x);
            x.clearText();
            x.type("DD11DD2DD211DD211");
        }, x -> x.prove(), Checks.NONE);
    }

    static void promise06_tooLargeLeavesTheListAsBefore() {
        Checks.emptiesTextOnly(x -> {
            Checks.busy(x);
            x.clearText();
            x.type("D2D2D22");
        }, x -> x.prove(), Checks.LARGE);
    }

    static void promise06_fullLeavesTheListAsBefore() {
        Checks.emptiesTextOnly(x -> {
            oneFree(x);
            x.type("D2D21");
        }, x -> x.prove(), Checks.FULL);
    }

    static void promise06_digitEmptiesTheTextOnly() {
        Checks.emptiesTextOnly(x -> {
            Checks.busy(x);
            x.clearText();
            x.type("4");
        }, x -> x.prove(), 3);
    }

    static void promise06_whatAnErrorRemovedIsNewAgain() {
        Bench x = Bench.with("CaCba", "p");
        Checks.due(x.proof("D2D11"), Checks.NONE);
        Checks.due(x.detach(0, 1), 2);
        Checks.due(x.detach(0, 0), 3);
    }

    // ---- promises 7 and 8 ----

    static void promise07_countNegativeIsBadValue() {
        Bench x = Bench.with("a", "Cab");
        Checks.due(x.cut(-1), Checks.BAD);
        Checks.due(x.cut(Checks.MIN), Checks.BAD);
    }

    static void promise07_count0RemovesAll() {
        Bench x = Bench.with("a", "Cab");
        Checks.due(x.cut(0), 2);
        Checks.due(x.listSize(), 0);
    }

    static void promise07_countOfAllRemovesNone() {
        Checks.leavesAll(Checks::busy, x -> x.cut(4), 0);
    }

    static void promise07_countAboveAllIsBadValue() {
        Bench x = Bench.with("a", "Cab");
        Checks.due(x.cut(3), Checks.BAD);
        Checks.due(x.cut(60), Checks.BAD);
        Checks.due(x.cut(Checks.MAX), Checks.BAD);
    }

    static void promise07_emptyList() {
        Bench x = new Bench();
        Checks.due(x.cut(0), 0);
        Checks.due(x.cut(1), Checks.BAD);
        Checks.due(x.cut(-1), Checks.BAD);
    }

    static void promise07_fullList() {
        Bench x = new Bench();
        x.fillWithTypes(60);
        Checks.due(x.cut(61), Checks.BAD);
        Checks.due(x.cut(60), 0);
        Checks.due(x.cut(59), 1);
        Checks.due(x.cut(60), Checks.BAD);
        Checks.due(x.cut(0), 59);
    }

    static void promise07_firstRemovedIsGoneAndLastThatStaysIsThere() {
        Bench x = Bench.with("a", "Cab", "CaCba");
        Checks.due(x.cut(2), 1);
        Checks.due(x.formulaSize(2), Checks.NO_SUCH);
        Checks.due(x.formula(1), "Cab");
    }

    static void promise07_badValueLeavesAll() {
        Checks.leavesAll(Checks::busy, x -> x.cut(5), Checks.BAD);
        Checks.leavesAll(Checks::busy, x -> x.cut(-1), Checks.BAD);
    }

    static void promise07_onlyTheListChanges() {
        Checks.same(Checks::busy, x -> {
            Checks.busy(x);
            x.detach(0, 0);
            x.detach(0, 1);
            x.cut(4);
        });
    }

    static void promise08_emptyList() {
        Checks.due(new Bench().listSize(), 0);
    }

    static void promise08_oneFormula() {
        Checks.due(Bench.with("a").listSize(), 1);
    }

    static void promise08_fullList() {
        Bench x = new Bench();
        x.fillWithTypes(60);
        Checks.due(x.listSize(), 60);
        x.axiom("a");
        Checks.due(x.listSize(), 60);
    }

    static void promise08_leavesAll() {
        Checks.leavesAll(Checks::busy, x -> x.listSize(), 4);
    }
}
