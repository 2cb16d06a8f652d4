/** The boundary cases of the promises 19 to 23: isInstance, moreGeneral, unify, round and shortest. */
public final class DerivationBoundariesTest {
    private static final int[] OUTSIDE = {-1, 4, 59, 60, -4, Checks.MIN, Checks.MAX};
    /** D of it and itself has 13 variables. */
    private static final String WIDE = "CaCbCcCdCeCfCga";
    /** Unified with MINOR_GROWTH it gives each of its variables twice the size of the one before. */
    private static final String MAJOR_GROWTH = "CaCCaaCbCCbbCcCCccCdCCdde";
    private static final String MINOR_GROWTH = "CaCbCbCcCcCdCdCee";

    public static void main(String[] args) {
        Checks.run(DerivationBoundariesTest.class);
    }

    // ---- promise 19 ----

    static void promise19_numbersOutsideAreNoSuchElement() {
        Bench x = new Bench();
        Checks.busy(x);
        for (int number : OUTSIDE) {
            Checks.due(x.isInstance(number, 0), Checks.NO_SUCH);
            Checks.due(x.isInstance(0, number), Checks.NO_SUCH);
            Checks.due(x.isInstance(number, number), Checks.NO_SUCH);
        }
    }

    static void promise19_emptyList() {
        Checks.due(new Bench().isInstance(0, 0), Checks.NO_SUCH);
    }

    static void promise19_formulaIsAnInstanceOfItself() {
        Bench x = new Bench();
        x.fillWithTypes(60);
        for (int i = 0; i < 60; i++) {
            Checks.due(x.isInstance(i, i), 1);
        }
        Checks.due(x.isInstance(60, 60), Checks.NO_SUCH);
    }

    static void promise19_allAreInstancesOfAVariable() {
        Bench x = Bench.with("a", "Caa", Checks.leftFormula(39), Checks.chain(11, "l"));
        for (int i = 0; i < 4; i++) {
            Checks.due(x.isInstance(i, 0), 1);
            Checks.due(x.isInstance(0, i), i == 0 ? 1 : 0);
        }
    }

    static void promise19_sameVariableNeedsTheSameFormula() {
        Bench x = Bench.with("Caa", "Cab", "CCaaCaa", "CCaaCab", "CCabCba");
        Checks.due(x.isInstance(0, 1), 1);
        Checks.due(x.isInstance(1, 0), 0);
        Checks.due(x.isInstance(2, 0), 1);
        Checks.due(x.isInstance(3, 0), 0);
        Checks.due(x.isInstance(4, 0), 0);
    }

    static void promise19_variableNeedNotStayInItsPlace() {
        Bench x = Bench.with("CaCba", "CaCbCcb", "CCabCcCab");
        Checks.due(x.isInstance(2, 0), 1);
        Checks.due(x.isInstance(1, 0), 0);
        Checks.due(x.isInstance(0, 2), 0);
    }

    static void promise19_all12VariablesAndTheGreatestSize() {
        Bench x = Bench.with(Checks.chain(11, "l"), Checks.chain(11, "Ca".repeat(8) + "l"), Checks.leftFormula(39));
        Checks.due(x.isInstance(1, 0), 1);
        Checks.due(x.isInstance(0, 1), 0);
        Checks.due(x.isInstance(2, 0), 0);
        Checks.due(x.isInstance(2, 2), 1);
    }

    static void promise19_leavesAll() {
        Checks.leavesAll(Checks::busy, x -> x.isInstance(4, 0), Checks.NO_SUCH);
        Checks.leavesAll(Checks::busy, x -> x.isInstance(0, 4), Checks.NO_SUCH);
        Checks.leavesAll(Checks::busy, x -> x.isInstance(0, 3), 0);
        Checks.leavesAll(Checks::busy, x -> x.isInstance(3, 3), 1);
    }

    // ---- promise 20 ----

    static void promise20_numbersOutsideAreNoSuchElement() {
        Bench x = new Bench();
        Checks.busy(x);
        for (int number : OUTSIDE) {
            Checks.due(x.moreGeneral(number), Checks.NO_SUCH);
        }
        Checks.due(new Bench().moreGeneral(0), Checks.NO_SUCH);
    }

    static void promise20_onlyFormulaHasNone() {
        Checks.due(Bench.with("Caa").moreGeneral(0), Checks.NONE);
        Checks.due(Bench.with("a").moreGeneral(0), Checks.NONE);
    }

    static void promise20_itselfDoesNotCount() {
        Bench x = Bench.with("Caa", "CaCba", "a");
        Checks.due(x.moreGeneral(2), Checks.NONE);
        Checks.due(x.moreGeneral(0), 2);
    }

    static void promise20_firstOfSeveral() {
        Bench x = Bench.with("Cab", "a", "Caa", "CCabCab");
        Checks.due(x.moreGeneral(3), 0);
        Checks.due(x.moreGeneral(2), 0);
        Checks.due(x.moreGeneral(0), 1);
    }

    static void promise20_lastFormulaOfAFullList() {
        Bench x = new Bench();
        x.fillWithTypes(59);
        Checks.due(x.moreGeneral(4), Checks.NONE);
        Checks.due(x.axiom("a"), 59);
        Checks.due(x.moreGeneral(4), 59);
        Checks.due(x.moreGeneral(59), Checks.NONE);
    }

    static void promise20_leavesAll() {
        Checks.leavesAll(Checks::busy, x -> x.moreGeneral(4), Checks.NO_SUCH);
        Checks.leavesAll(Checks::busy, x -> x.moreGeneral(0), Checks.NONE);
    }

    // ---- promise 21 ----

    static void promise21_numbersOutsideAreNoSuchElement() {
        Bench x = new Bench();
        Checks.busy(x);
        for (int number : OUTSIDE) {
            Checks.due(x.unify(number, 0), Checks.NO_SUCH);
            Checks.due(x.unify(0, number), Checks.NO_SUCH);
            Checks.due(x.unify(number, number), Checks.NO_SUCH);
        }
        Checks.due(new Bench().unify(0, 0), Checks.NO_SUCH);
    }

    static void promise21_noSuchElementIsCheckedBeforeNone() {
        Bench x = Bench.with("Caa", "CaCab");
        Checks.due(x.unify(0, 1), Checks.NONE);
        Checks.due(x.unify(0, 2), Checks.NO_SUCH);
        Checks.due(x.unify(2, 1), Checks.NO_SUCH);
    }

    static void promise21_sameFormulaTwiceHasVariablesOfItsOwn() {
        Bench x = Bench.with("CaCab", "a");
        Checks.due(x.unify(0, 0), 5);
        Checks.due(x.output(), "CaCab");
        Checks.due(x.unify(1, 1), 1);
        Checks.due(x.output(), "a");
    }

    static void promise21_secondVariablesAreRenamed() {
        Bench x = Bench.with("CaCba", "CCabc");
        Checks.due(x.unify(0, 1), 9);
        Checks.due(x.output(), "CCabCcCab");
        Checks.due(x.unify(1, 0), 9);
        Checks.due(x.output(), "CCabCcCab");
    }

    static void promise21_resultIsWrittenByFirstOccurrences() {
        Bench x = Bench.with("CCabCca", "CaCbc");
        Checks.due(x.unify(1, 0), 7);
        Checks.due(x.output(), "CCabCca");
        Bench y = Bench.with("CaCbCca", "CaCbCbc");
        Checks.due(y.unify(0, 1), 7);
        Checks.due(y.output(), "CaCbCba");
    }

    static void promise21_size39IsTaken() {
        Bench x = Bench.with("Cab", "C" + Checks.leftFormula(19) + Checks.leftFormula(19), "Caa");
        Checks.due(x.unify(0, 1), 39);
        Checks.due(x.unify(2, 1), 39);
        Checks.due(x.outputLength(), 39);
    }

    static void promise21_size39MadeOfSmallerOnesIsTaken() {
        Bench x = Bench.with("CaCba", "CaCCbba", "C" + Checks.leftFormula(17) + "Cbc");
        Checks.due(x.formulaSize(2), 21);
        Checks.due(x.unify(0, 2), 37);
        Checks.due(x.unify(1, 2), 39);
    }

    static void promise21_size41IsTooLarge() {
        Bench x = Bench.with("CaCba", "C" + Checks.leftFormula(19) + "Cbc");
        Checks.due(x.unify(0, 1), Checks.LARGE);
    }

    static void promise21_variables12AreTakenAnd13AreTooLarge() {
        Bench x = Bench.with("CaCbCcCdCeCfCgh", "CCabCCcdCCefCCghCiCjk", "CCabCCcdCCefCCghCCijk");
        Checks.due(x.unify(0, 1), 23);
        Checks.due(x.output(), "CCabCCcdCCefCCghCiCjCkl");
        Checks.due(x.unify(0, 2), Checks.LARGE);
        Checks.due(x.unify(2, 0), Checks.LARGE);
        Checks.due(x.output(), "CCabCCcdCCefCCghCiCjCkl");
    }

    static void promise21_substitutionThatGrowsIsTooLarge() {
        Bench x = Bench.with(MAJOR_GROWTH, MINOR_GROWTH);
        Checks.due(x.unify(0, 1), Checks.LARGE);
        Checks.due(x.unify(1, 0), Checks.LARGE);
    }

    static void promise21_noneIsCheckedBeforeTooLarge() {
        Bench x = Bench.with(MAJOR_GROWTH.replace('e', 'a'), MINOR_GROWTH);
        Checks.due(x.unify(0, 1), Checks.NONE);
        Checks.due(x.unify(1, 0), Checks.NONE);
    }

    static void promise21_fullListTakesTheResultAsItIsNotEntered() {
        Bench x = new Bench();
        x.fillWithTypes(60);
        Checks.due(x.unify(0, 6), 9);
        Checks.due(x.output(), "CCabCbCab");
        Checks.due(x.listSize(), 60);
    }

    static void promise21_noSuchElementLeavesAll() {
        Checks.leavesAll(Checks::busy, x -> x.unify(4, 0), Checks.NO_SUCH);
        Checks.leavesAll(Checks::busy, x -> x.unify(0, 4), Checks.NO_SUCH);
    }

    static void promise21_noneLeavesAll() {
        Checks.leavesAll(x -> {
            x.axiom("Caa");
            x.axiom("CaCab");
            x.writeFormula(1);
            x.type("S(KI)");
        }, x -> x.unify(0, 1), Checks.NONE);
    }

    static void promise21_tooLargeLeavesAll() {
        Checks.leavesAll(x -> {
            x.axiom(MAJOR_GROWTH);
            x.axiom(MINOR_GROWTH);
            x.writeFormula(1);
            x.type("S(KI)");
        }, x -> x.unify(0, 1), Checks.LARGE);
    }

    static void promise21_onlyTheOutputChanges() {
        Checks.same(Checks::busy, x -> {
            Checks.busy(x);
            x.unify(2, 3);
            x.writeProof(2);
        });
    }

    // ---- promise 22: the limit ----

    static void promise22_limit0IsBadValue() {
        Checks.due(Bench.with("CaCba").round(0), Checks.BAD);
    }

    static void promise22_limit1IsTaken() {
        Bench x = Bench.with("CCaaa", "Cab");
        Checks.due(x.round(1), 1);
        Checks.due(x.formula(2), "a");
    }

    static void promise22_limit39IsTaken() {
        Checks.due(Bench.with("CaCba").round(39), 1);
    }

    static void promise22_limit40IsBadValue() {
        Checks.due(Bench.with("CaCba").round(40), Checks.BAD);
    }

    static void promise22_limitsFarOutsideAreBadValue() {
        for (int limit : new int[] {-1, -39, 41, Checks.MIN, Checks.MAX}) {
            Checks.due(Bench.with("CaCba").round(limit), Checks.BAD);
        }
    }

    static void promise22_badValueForAnEmptyAndForAFullList() {
        Checks.due(new Bench().round(0), Checks.BAD);
        Checks.due(new Bench().round(40), Checks.BAD);
        Bench x = new Bench();
        x.fillWithTypes(60);
        Checks.due(x.round(0), Checks.BAD);
        Checks.due(x.round(40), Checks.BAD);
    }

    static void promise22_badValueLeavesAll() {
        Checks.leavesAll(Checks::busy, x -> x.round(0), Checks.BAD);
        Checks.leavesAll(Checks::busy, x -> x.round(40), Checks.BAD);
    }

    static void promise22_resultAsLargeAsTheLimitIsEntered() {
        Bench x = Bench.with("CaCba");
        Checks.due(x.round(7), 1);
        Checks.due(x.formulaSize(1), 7);
    }

    static void promise22_resultLargerThanTheLimitIsNotEntered() {
        Bench x = Bench.with("CaCba");
        Checks.due(x.round(6), 0);
        Checks.due(x.round(5), 0);
        Checks.due(x.listSize(), 1);
    }

    // ---- promise 22: the results ----

    static void promise22_size39IsEntered() {
        Bench x = Bench.with("CaCaa", Checks.leftFormula(19));
        Checks.due(x.round(38), 1);
        x.cut(2);
        Checks.due(x.round(39), 2);
        Checks.due(x.formulaSize(2), 11);
        Checks.due(x.formulaSize(3), 39);
    }

    static void promise22_size41IsTooLarge() {
        Bench x = Bench.with("CaCbCaa", Checks.leftFormula(19));
        Checks.due(x.round(39), 1);
        Checks.due(x.formulaSize(2), 17);
    }

    static void promise22_variables12AreEntered() {
        Bench x = Bench.with("CaCba", Checks.chain(11, "a"));
        Checks.due(x.round(39), 3);
        Checks.due(x.formula(2), "CaCbCcb");
        Checks.due(x.formula(3), Checks.chain(12, "b"));
        Checks.due(x.formula(4), Checks.chain(12, "k"));
        Checks.due(x.variableCount(4), 12);
    }

    static void promise22_variables13AreTooLarge() {
        Bench x = Bench.with(WIDE);
        Checks.due(x.round(39), 0);
        Checks.due(x.listSize(), 1);
        Bench y = Bench.with("CaCba", Checks.chain(11, "l"));
        Checks.due(y.round(39), 2);
        Checks.due(y.formula(3), Checks.chain(10, "k"));
    }

    static void promise22_pairsWithoutAResultAreLeftOut() {
        Bench x = Bench.with("a", "b");
        Checks.due(x.round(39), 0);
        Bench y = Bench.with("CCaab", "CaCab");
        Checks.due(y.detach(0, 1), Checks.NONE);
        Checks.due(y.round(39), 1);
        Checks.due(y.majorOf(2), 0);
        Checks.due(y.minorOf(2), 0);
    }

    static void promise22_variantOfAFormulaIsNotEntered() {
        Bench x = Bench.with("Caa");
        Checks.due(x.round(39), 0);
        Checks.due(x.listSize(), 1);
    }

    static void promise22_instanceOfTheFirstFormulaIsNotEntered() {
        Bench x = Bench.with("a", "CaCba");
        Checks.due(x.round(39), 0);
        Checks.due(x.listSize(), 2);
    }

    static void promise22_instanceOfALaterFormulaIsNotEntered() {
        Bench x = Bench.with("CaCba", "CaCbCcd");
        Checks.due(x.round(39), 1);
        Checks.due(x.formula(2), "CaCbc");
    }

    static void promise22_instanceOfAFormulaOfThisRoundIsNotEntered() {
        Bench x = Bench.with("CaCbCcc", "CaCbb", "Cab");
        Checks.due(x.round(39), 1);
        Checks.due(x.formula(3), "a");
    }

    static void promise22_moreGeneralFormulaIsEnteredBesideItsInstance() {
        Bench x = Bench.with("CCaaCaa", "CaCbb");
        Checks.due(x.round(3), 1);
        Checks.due(x.formula(2), "Caa");
        Checks.due(x.isInstance(0, 2), 1);
    }

    static void promise22_formulasOfThisRoundAreNotTried() {
        Bench x = Bench.with("CaCba");
        Checks.due(x.round(39), 1);
        Checks.due(x.round(39), 1);
        Checks.due(x.majorOf(2), 0);
        Checks.due(x.minorOf(2), 1);
        Checks.due(x.round(39), 1);
        Checks.due(x.minorOf(3), 2);
    }

    static void promise22_majorsComeFirstThenMinors() {
        Bench x = new Bench();
        x.fillWithTypes(60);
        x.cut(6);
        Checks.due(x.round(39), 21);
        int before = -1;
        for (int i = 6; i < 27; i++) {
            int pair = 6 * x.majorOf(i) + x.minorOf(i);
            Checks.due(pair > before ? 1 : 0, 1);
            before = pair;
        }
    }

    // ---- promise 22: the list ----

    static void promise22_emptyList() {
        Bench x = new Bench();
        Checks.due(x.round(39), 0);
        Checks.due(x.listSize(), 0);
    }

    static void promise22_fullList() {
        Checks.leavesAll(Checks::full, x -> x.round(39), 0);
    }

    static void promise22_listWithOnePlaceGetsOne() {
        Bench x = new Bench();
        x.fillWithTypes(59);
        Checks.due(x.round(39), 1);
        Checks.due(x.listSize(), 60);
        Checks.due(x.majorOf(59), 0);
        Checks.due(x.minorOf(59), 27);
    }

    static void promise22_roundEndsEarlyWhenTheListIsFull() {
        Bench x = new Bench();
        x.fillWithTypes(27);
        Checks.due(x.round(39), 33);
        Checks.due(x.listSize(), 60);
        Checks.due(x.formula(59), "CCCabCbcCCabCac");
    }

    static void promise22_onlyTheListChanges() {
        Checks.same(Checks::busy, x -> {
            Checks.busy(x);
            x.round(39);
            x.cut(4);
        });
    }

    // ---- promise 23: the arguments ----

    static void promise23_numbersOutsideAreNoSuchElement() {
        Bench x = new Bench();
        Checks.busy(x);
        for (int number : OUTSIDE) {
            Checks.due(x.shortest(number, 0), Checks.NO_SUCH);
        }
        Checks.due(new Bench().shortest(0, 0), Checks.NO_SUCH);
    }

    static void promise23_noSuchElementIsCheckedBeforeBadValue() {
        Bench x = Bench.with("a");
        Checks.due(x.shortest(1, -1), Checks.NO_SUCH);
        Checks.due(x.shortest(1, 5), Checks.NO_SUCH);
        Checks.due(x.shortest(-1, 5), Checks.NO_SUCH);
    }

    static void promise23_mostNegativeIsBadValue() {
        Checks.due(Bench.with("a").shortest(0, -1), Checks.BAD);
        Checks.due(Bench.with("a").shortest(0, Checks.MIN), Checks.BAD);
    }

    static void promise23_most0And4AreTaken() {
        Bench x = Bench.with("CaCba");
        Checks.due(x.proof("D1D1D1D11"), 4);
        Checks.due(x.shortest(0, 0), 0);
        Checks.due(x.shortest(4, 4), 4);
    }

    static void promise23_most5IsBadValue() {
        Checks.due(Bench.with("a").shortest(0, 5), Checks.BAD);
        Checks.due(Bench.with("a").shortest(0, Checks.MAX), Checks.BAD);
    }

    static void promise23_badValueIsCheckedBeforeTooLarge() {
        Bench x = with121AtThree();
        Checks.due(x.shortest(7, 3), Checks.LARGE);
        Checks.due(x.shortest(7, 5), Checks.BAD);
    }

    // ---- promise 23: the answer ----

    static void promise23_axiomHasAProofOf0Signs() {
        Bench x = Bench.with("CaCba", "CCaCbcCCabCac");
        Checks.due(x.shortest(0, 0), 0);
        Checks.due(x.shortest(1, 0), 0);
        Checks.due(x.shortest(1, 4), 0);
    }

    static void promise23_instanceOfAnAxiomHasAProofOf0Signs() {
        Bench x = Bench.with("CaCaa", "Cab");
        Checks.due(x.proof("D11"), 2);
        Checks.due(x.shortest(2, 0), 0);
    }

    static void promise23_derivedFormulaHasNoneOf0Signs() {
        Bench x = Bench.with("CaCba");
        x.detach(0, 0);
        Checks.due(x.shortest(1, 0), Checks.NONE);
        Checks.due(x.shortest(1, 1), 1);
    }

    static void promise23_mostIsAtLeastTheAnswerOrNone() {
        Bench x = Bench.with("CaCba");
        x.proof("D1D1D1D1D11");
        for (int formula = 0; formula <= 5; formula++) {
            for (int most = 0; most <= 4; most++) {
                Checks.due(x.shortest(formula, most), formula <= most ? formula : Checks.NONE);
            }
        }
    }

    static void promise23_shorterThanTheProofOfTheList() {
        Bench x = Bench.with("CaCbCcc", "CaCba");
        Checks.due(x.proof("D1D22"), 3);
        Checks.due(x.proofSize(3), 2);
        Checks.due(x.shortest(3, 4), 1);
        Checks.due(x.shortest(3, 1), 1);
        Checks.due(x.shortest(3, 0), Checks.NONE);
    }

    static void promise23_axiomThatWasAddedLaterCounts() {
        Bench x = Bench.with("CaCba");
        Checks.due(x.proof("D1D11"), 2);
        Checks.due(x.shortest(2, 4), 2);
        Checks.due(x.axiom("CaCbCcCda"), 3);
        Checks.due(x.shortest(2, 4), 2);
        Checks.due(x.axiom("CaCbCcd"), 4);
        Checks.due(x.shortest(2, 4), 0);
    }

    static void promise23_variantOfADerivedFormulaIsNoAxiom() {
        Bench x = Bench.with("CaCba");
        x.detach(0, 0);
        Checks.due(x.axiom("CxCyCzy"), 1);
        Checks.due(x.shortest(1, 4), 1);
        Checks.due(x.shortest(1, 0), Checks.NONE);
    }

    static void promise23_typeCountsAsAnAxiom() {
        Bench x = new Bench();
        Checks.due(x.termType("KI"), 0);
        Checks.due(x.shortest(0, 0), 0);
    }

    static void promise23_resultsOfMoreThan39LettersAreNotUsed() {
        Bench x = Bench.with("CCabCCbcCac", "CCCabaa", "CaCCCaaCaaCaa");
        int goal = x.proof("DDD1322");
        Checks.due(x.formula(goal), "CCCCabaaCCCabaa");
        Checks.due(x.shortest(goal, 2), Checks.NONE);
        Checks.due(x.shortest(goal, 4), 3);
        Checks.due(x.proof("D32"), Checks.LARGE);
    }

    static void promise23_resultsOfMoreThan12VariablesAreNotUsed() {
        Bench x = Bench.with("CaCbCca", WIDE);
        int goal = x.proof("D1D1DD121");
        Checks.due(x.formula(goal), "CaCbCcCdCeCfCgChCiCjCkClf");
        Checks.due(x.shortest(goal, 3), Checks.NONE);
        Checks.due(x.shortest(goal, 4), 4);
        Checks.due(x.proof("D22"), Checks.LARGE);
    }

    // ---- promise 23: the limit of 120 ----

    /** 3, 12, 40, 120 and 366 formulas have proofs of up to 0, 1, 2, 3 and 4 signs D. */
    private static Bench with120AtThree() {
        return Bench.with("CCCaabb", "CaCaa", "CaCCabCcb");
    }

    /** 3, 9, 34, 121 and 418 formulas have proofs of up to 0, 1, 2, 3 and 4 signs D; formula 4 needs 2, formula 7 needs 3. */
    private static void with121AtThree(Bench x) {
        x.axiom("Caa");
        x.axiom("CCabCCbcCac");
        x.axiom("CaCCabCcb");
        x.proof("D2D22");
        x.proof("D2D2D31");
    }

    private static Bench with121AtThree() {
        Bench x = new Bench();
        with121AtThree(x);
        return x;
    }

    static void promise23_formulas120AreTaken() {
        Bench x = with120AtThree();
        int goal = x.proof("D3D1D13");
        Checks.due(x.shortest(goal, 2), Checks.NONE);
        Checks.due(x.shortest(goal, 3), 3);
        Checks.due(x.shortest(goal, 4), 3);
    }

    static void promise23_formulas120WithoutAnAnswerAreNone() {
        Bench x = with120AtThree();
        int goal = x.proof("D3D3D1D13");
        Checks.due(x.shortest(goal, 3), Checks.NONE);
        Checks.due(x.shortest(goal, 4), Checks.LARGE);
    }

    static void promise23_formulas121AreTooLarge() {
        Bench x = with121AtThree();
        int goal = x.proof("D2D2D22");
        Checks.due(x.shortest(goal, 2), Checks.NONE);
        Checks.due(x.shortest(goal, 3), Checks.LARGE);
        Checks.due(x.shortest(goal, 4), Checks.LARGE);
    }

    static void promise23_formulas120OfAllFourNumbersAreTaken() {
        Bench x = Bench.with("CaCaa", "CaCbCcc", "CaCba");
        int goal = x.proof("D3D3D3D33");
        Checks.due(x.shortest(goal, 3), Checks.NONE);
        Checks.due(x.shortest(goal, 4), 4);
        Checks.due(x.proof("D3D3D3D3D33"), goal + 1);
        Checks.due(x.shortest(goal + 1, 4), Checks.NONE);
    }

    static void promise23_formulas121OfAllFourNumbersAreTooLarge() {
        Bench x = Bench.with("CaCba", "CaCbCcb", "CaCaa", "CCCabaa");
        int goal = x.proof("D1D1D1D12");
        Checks.due(x.shortest(goal, 3), Checks.NONE);
        Checks.due(x.shortest(goal, 4), Checks.LARGE);
    }

    static void promise23_answerBeforeTheLimitIsFound() {
        Bench x = with121AtThree();
        for (int most = 2; most <= 4; most++) {
            Checks.due(x.shortest(4, most), 2);
        }
        Checks.due(x.shortest(0, 4), 0);
        Checks.due(x.shortest(3, 4), 1);
    }

    static void promise23_limitIsCheckedBeforeTheAnswerOfTheSameNumber() {
        Bench x = with121AtThree();
        Checks.due(x.proofSize(7), 3);
        Checks.due(x.shortest(7, 3), Checks.LARGE);
    }

    static void promise23_limitThatMostDoesNotReachIsNone() {
        Bench x = with121AtThree();
        Checks.due(x.shortest(7, 2), Checks.NONE);
        Checks.due(x.shortest(7, 1), Checks.NONE);
        Checks.due(x.shortest(7, 0), Checks.NONE);
    }

    static void promise23_axioms60AreTaken() {
        Bench x = new Bench();
        x.fillFromRow(60);
        Checks.due(x.listSize(), 60);
        Checks.due(x.majorOf(59), Checks.NONE);
        Checks.due(x.shortest(59, 0), 0);
        Checks.due(x.shortest(0, 4), 0);
    }

    static void promise23_leavesAll() {
        Checks.leavesAll(Checks::busy, x -> x.shortest(4, 4), Checks.NO_SUCH);
        Checks.leavesAll(Checks::busy, x -> x.shortest(3, 5), Checks.BAD);
        Checks.leavesAll(Checks::busy, x -> x.shortest(3, 1), Checks.NONE);
        Checks.leavesAll(Checks::busy, x -> x.shortest(3, 4), 2);
        Checks.leavesAll(x -> {
            with121AtThree(x);
            x.writeFormula(4);
            x.type("S(KI)");
        }, x -> x.shortest(7, 3), Checks.LARGE);
    }
}
