/** The boundary cases of the promises 9 to 18: what is told of a formula, and the output. */
public final class FactBoundariesTest {
    private static final int[] OUTSIDE = {-1, 4, 59, 60, -4, Checks.MIN, Checks.MAX};

    public static void main(String[] args) {
        Checks.run(FactBoundariesTest.class);
    }

    /**
     * Chains of 11 implications, each shortened from within: the proof of each formula detaches the one before from itself,
     * so that sizes double. The list is full at the end; formula 12 k is an axiom.
     */
    private static Bench longProofs() {
        String[] ends = {"Czz", "CCzzz", "CzCzz", "CCzzCzz", "CCCzzzz"};
        Bench x = new Bench();
        int last = 0;
        for (int k = 0; k < ends.length; k++) {
            int major = x.axiom(Checks.chain(11, ends[k]));
            int minor = k == 0 ? major : last;
            for (int i = 0; i < 11; i++) {
                last = x.detach(major, minor);
                major = last;
                minor = last;
            }
        }
        return x;
    }

    /** Formulas 10 and 11 have proofs of 49 and 50 signs D from the axioms 0 and 1. */
    private static void proofsOf49And50(Bench x) {
        x.axiom(Checks.chain(11, "Czz"));
        x.axiom(Checks.chain(11, "CCzzz"));
        x.detach(0, 0);
        x.detach(2, 2);
        x.detach(3, 3);
        x.detach(4, 4);
        x.detach(5, 5);
        x.detach(1, 6);
        x.detach(7, 4);
        x.detach(8, 4);
        x.detach(9, 0);
        x.detach(10, 0);
    }

    /** Ten axioms; CaCba is the last, with the number 9. */
    private static void tenAxioms(Bench x) {
        String[] axioms = {"Caa", "Cab", "CaCaa", "CaCab", "CaCbb", "CaCbc", "CCaaa", "CCaab", "CCabb", "CaCba"};
        for (String axiom : axioms) {
            x.axiom(axiom);
        }
    }

    // ---- promises 9 and 10 ----

    static void promise09_numbersOutsideAreNoSuchElement() {
        Bench x = new Bench();
        Checks.busy(x);
        for (int number : OUTSIDE) {
            Checks.due(x.formulaSize(number), Checks.NO_SUCH);
        }
    }

    static void promise09_firstAndLastNumber() {
        Bench x = new Bench();
        Checks.busy(x);
        Checks.due(x.formulaSize(0), 5);
        Checks.due(x.formulaSize(3), 3);
    }

    static void promise09_emptyList() {
        Checks.due(new Bench().formulaSize(0), Checks.NO_SUCH);
    }

    static void promise09_fullList() {
        Bench x = new Bench();
        x.fillWithTypes(60);
        Checks.due(x.formulaSize(59), 15);
        Checks.due(x.formulaSize(60), Checks.NO_SUCH);
    }

    static void promise09_formulaThatWasCut() {
        Bench x = Bench.with("a", "Cab");
        x.cut(1);
        Checks.due(x.formulaSize(0), 1);
        Checks.due(x.formulaSize(1), Checks.NO_SUCH);
    }

    static void promise09_leastAndGreatestSize() {
        Bench x = Bench.with("a", Checks.leftFormula(39));
        Checks.due(x.formulaSize(0), 1);
        Checks.due(x.formulaSize(1), 39);
    }

    static void promise09_leavesAll() {
        Checks.leavesAll(Checks::busy, x -> x.formulaSize(4), Checks.NO_SUCH);
        Checks.leavesAll(Checks::busy, x -> x.formulaSize(3), 3);
    }

    static void promise10_numbersOutsideAreNoSuchElement() {
        Bench x = new Bench();
        Checks.busy(x);
        for (int number : OUTSIDE) {
            Checks.due(x.variableCount(number), Checks.NO_SUCH);
        }
    }

    static void promise10_firstAndLastNumber() {
        Bench x = new Bench();
        Checks.busy(x);
        Checks.due(x.variableCount(0), 2);
        Checks.due(x.variableCount(3), 1);
    }

    static void promise10_emptyList() {
        Checks.due(new Bench().variableCount(0), Checks.NO_SUCH);
    }

    static void promise10_fullList() {
        Bench x = new Bench();
        x.fillWithTypes(60);
        Checks.due(x.variableCount(59), 3);
        Checks.due(x.variableCount(60), Checks.NO_SUCH);
    }

    static void promise10_leastAndGreatestCount() {
        Bench x = Bench.with("z", Checks.leftFormula(39), Checks.chain(11, "z"));
        Checks.due(x.variableCount(0), 1);
        Checks.due(x.variableCount(1), 1);
        Checks.due(x.variableCount(2), 12);
    }

    static void promise10_leavesAll() {
        Checks.leavesAll(Checks::busy, x -> x.variableCount(4), Checks.NO_SUCH);
        Checks.leavesAll(Checks::busy, x -> x.variableCount(3), 1);
    }

    // ---- promises 11 and 12 ----

    static void promise11_numbersOutsideAreNoSuchElement() {
        Bench x = new Bench();
        Checks.busy(x);
        for (int number : OUTSIDE) {
            Checks.due(x.majorOf(number), Checks.NO_SUCH);
        }
        Checks.due(new Bench().majorOf(0), Checks.NO_SUCH);
    }

    static void promise11_axiomHasNone() {
        Bench x = new Bench();
        Checks.busy(x);
        Checks.due(x.majorOf(0), Checks.NONE);
        Checks.due(x.majorOf(1), Checks.NONE);
    }

    static void promise11_derivedFormulaHasOne() {
        Bench x = new Bench();
        Checks.busy(x);
        Checks.due(x.majorOf(2), 1);
        Checks.due(x.majorOf(3), 2);
    }

    static void promise11_majorOfTheNumber0() {
        Bench x = Bench.with("CaCba");
        x.detach(0, 0);
        Checks.due(x.majorOf(1), 0);
    }

    static void promise11_firstDerivationStays() {
        Bench x = Bench.with("CaCba", "Caa");
        Checks.due(x.detach(0, 0), 2);
        Checks.due(x.detach(1, 2), 2);
        Checks.due(x.majorOf(2), 0);
        Checks.due(x.minorOf(2), 0);
    }

    static void promise11_typeIsAnAxiom() {
        Bench x = new Bench();
        Checks.due(x.termType("SKK"), 0);
        Checks.due(x.majorOf(0), Checks.NONE);
    }

    static void promise11_fullList() {
        Bench x = new Bench();
        x.fillWithTypes(60);
        Checks.due(x.majorOf(59), 1);
        Checks.due(x.majorOf(60), Checks.NO_SUCH);
    }

    static void promise11_leavesAll() {
        Checks.leavesAll(Checks::busy, x -> x.majorOf(4), Checks.NO_SUCH);
        Checks.leavesAll(Checks::busy, x -> x.majorOf(0), Checks.NONE);
    }

    static void promise12_numbersOutsideAreNoSuchElement() {
        Bench x = new Bench();
        Checks.busy(x);
        for (int number : OUTSIDE) {
            Checks.due(x.minorOf(number), Checks.NO_SUCH);
        }
        Checks.due(new Bench().minorOf(0), Checks.NO_SUCH);
    }

    static void promise12_axiomHasNone() {
        Bench x = new Bench();
        Checks.busy(x);
        Checks.due(x.minorOf(0), Checks.NONE);
        Checks.due(x.minorOf(1), Checks.NONE);
    }

    static void promise12_derivedFormulaHasOne() {
        Bench x = new Bench();
        Checks.busy(x);
        Checks.due(x.minorOf(2), 0);
        Checks.due(x.minorOf(3), 0);
        Checks.due(x.detach(0, 3), 4);
        Checks.due(x.minorOf(4), 3);
    }

    static void promise12_typeIsAnAxiom() {
        Bench x = new Bench();
        Checks.due(x.termType("SKK"), 0);
        Checks.due(x.minorOf(0), Checks.NONE);
    }

    static void promise12_fullList() {
        Bench x = new Bench();
        x.fillWithTypes(60);
        Checks.due(x.minorOf(59), 23);
        Checks.due(x.minorOf(60), Checks.NO_SUCH);
    }

    static void promise12_leavesAll() {
        Checks.leavesAll(Checks::busy, x -> x.minorOf(4), Checks.NO_SUCH);
        Checks.leavesAll(Checks::busy, x -> x.minorOf(0), Checks.NONE);
    }

    // ---- promises 13 and 14 ----

    static void promise13_numbersOutsideAreNoSuchElement() {
        Bench x = new Bench();
        Checks.busy(x);
        for (int number : OUTSIDE) {
            Checks.due(x.proofDepth(number), Checks.NO_SUCH);
        }
        Checks.due(new Bench().proofDepth(0), Checks.NO_SUCH);
    }

    static void promise13_axiomHasDepth0() {
        Bench x = new Bench();
        Checks.busy(x);
        Checks.due(x.proofDepth(0), 0);
        Checks.due(x.proofDepth(1), 0);
    }

    static void promise13_twoAxiomsGiveDepth1() {
        Bench x = new Bench();
        Checks.busy(x);
        Checks.due(x.proofDepth(2), 1);
    }

    static void promise13_deeperMajorCounts() {
        Bench x = new Bench();
        Checks.busy(x);
        Checks.due(x.proofDepth(3), 2);
    }

    static void promise13_deeperMinorCounts() {
        Bench x = new Bench();
        Checks.busy(x);
        Checks.due(x.detach(0, 3), 4);
        Checks.due(x.proofDepth(4), 3);
    }

    static void promise13_deepestProofOfAFullList() {
        Bench x = longProofs();
        Checks.due(x.listSize(), 60);
        Checks.due(x.proofDepth(59), 55);
    }

    static void promise13_leavesAll() {
        Checks.leavesAll(Checks::busy, x -> x.proofDepth(4), Checks.NO_SUCH);
        Checks.leavesAll(Checks::busy, x -> x.proofDepth(3), 2);
    }

    static void promise14_numbersOutsideAreNoSuchElement() {
        Bench x = new Bench();
        Checks.busy(x);
        for (int number : OUTSIDE) {
            Checks.due(x.proofSize(number), Checks.NO_SUCH);
        }
        Checks.due(new Bench().proofSize(0), Checks.NO_SUCH);
    }

    static void promise14_axiomHasNoSign() {
        Bench x = new Bench();
        Checks.busy(x);
        Checks.due(x.proofSize(0), 0);
        Checks.due(x.proofSize(1), 0);
    }

    static void promise14_twoAxiomsGiveOneSign() {
        Bench x = new Bench();
        Checks.busy(x);
        Checks.due(x.proofSize(2), 1);
    }

    static void promise14_bothPartsCountInFull() {
        Bench x = new Bench();
        proofsOf49And50(x);
        Checks.due(x.proofSize(3), 3);
        Checks.due(x.proofSize(6), 31);
        Checks.due(x.proofSize(10), 49);
        Checks.due(x.proofSize(11), 50);
    }

    static void promise14_moreThanAnIntHolds() {
        Bench x = longProofs();
        Checks.due(x.proofSize(35), (1L << 31) + (1L << 20) + (1L << 10) - 1);
        Checks.due(x.proofSize(59), (1L << 51) + (1L << 40) + (1L << 30) + (1L << 20) + (1L << 10) - 1);
    }

    static void promise14_leavesAll() {
        Checks.leavesAll(Checks::busy, x -> x.proofSize(4), Checks.NO_SUCH);
        Checks.leavesAll(Checks::busy, x -> x.proofSize(3), 2);
    }

    // ---- promise 15 ----

    static void promise15_numbersOutsideAreNoSuchElement() {
        Bench x = new Bench();
        Checks.busy(x);
        for (int number : OUTSIDE) {
            Checks.due(x.writeFormula(number), Checks.NO_SUCH);
        }
        Checks.due(new Bench().writeFormula(0), Checks.NO_SUCH);
    }

    static void promise15_shortestFormula() {
        Bench x = Bench.with("z");
        Checks.due(x.writeFormula(0), 1);
        Checks.due(x.output(), "a");
    }

    static void promise15_longestFormula() {
        Bench x = Bench.with(Checks.leftFormula(39));
        Checks.due(x.writeFormula(0), 39);
        Checks.due(x.output(), Checks.leftFormula(39));
    }

    static void promise15_all12Variables() {
        Bench x = Bench.with("CzCyCxCwCvCuCtCsCrCqCpo");
        Checks.due(x.writeFormula(0), 23);
        Checks.due(x.output(), "CaCbCcCdCeCfCgChCiCjCkl");
    }

    static void promise15_lastFormulaOfAFullList() {
        Bench x = new Bench();
        x.fillWithTypes(60);
        Checks.due(x.writeFormula(59), 15);
        Checks.due(x.output(), "CCCabCbcCCabCac");
        Checks.due(x.writeFormula(60), Checks.NO_SUCH);
    }

    static void promise15_shorterOutputReplacesALongerOne() {
        Bench x = Bench.with("CaCba", "a");
        x.writeFormula(0);
        Checks.due(x.writeFormula(1), 1);
        Checks.due(x.outputAt(0), 'a');
        Checks.due(x.outputAt(1), Checks.NO_SUCH);
    }

    static void promise15_noSuchElementLeavesAll() {
        Checks.leavesAll(Checks::busy, x -> x.writeFormula(4), Checks.NO_SUCH);
        Checks.leavesAll(Checks::busy, x -> x.writeFormula(-1), Checks.NO_SUCH);
    }

    static void promise15_onlyTheOutputChanges() {
        Checks.same(Checks::busy, x -> {
            Checks.busy(x);
            x.writeFormula(0);
            x.writeProof(2);
        });
    }

    // ---- promise 16 ----

    static void promise16_numbersOutsideAreNoSuchElement() {
        Bench x = new Bench();
        Checks.busy(x);
        for (int number : OUTSIDE) {
            Checks.due(x.writeProof(number), Checks.NO_SUCH);
        }
        Checks.due(new Bench().writeProof(0), Checks.NO_SUCH);
    }

    static void promise16_axiom0IsTheDigit1() {
        Bench x = new Bench();
        tenAxioms(x);
        Checks.due(x.writeProof(0), 1);
        Checks.due(x.output(), "1");
    }

    static void promise16_axiom8IsTheDigit9() {
        Bench x = new Bench();
        tenAxioms(x);
        Checks.due(x.writeProof(8), 1);
        Checks.due(x.output(), "9");
    }

    static void promise16_axiom9IsTooLarge() {
        Bench x = new Bench();
        tenAxioms(x);
        Checks.due(x.writeProof(9), Checks.LARGE);
        Checks.due(x.outputLength(), 0);
    }

    static void promise16_axiom9InTheMajorPartIsTooLarge() {
        Bench x = new Bench();
        tenAxioms(x);
        Checks.due(x.detach(9, 8), 10);
        Checks.due(x.writeProof(10), Checks.LARGE);
    }

    static void promise16_axiom9InTheMinorPartIsTooLarge() {
        Bench x = Bench.with("CaCba", "Cab", "CaCaa", "CaCab", "CaCbb", "CaCbc", "CCaaa", "CCaab", "CCabb", "Caa");
        Checks.due(x.detach(2, 9), 10);
        Checks.due(x.writeProof(10), Checks.LARGE);
        Checks.due(x.detach(2, 8), 11);
        Checks.due(x.writeProof(11), 3);
        Checks.due(x.output(), "D39");
    }

    static void promise16_axiom9DeepInTheProofIsTooLarge() {
        Bench x = new Bench();
        tenAxioms(x);
        x.detach(9, 8);
        Checks.due(x.detach(2, 10), 11);
        Checks.due(x.writeProof(11), Checks.LARGE);
    }

    static void promise16_derivedFormulaWithAGreaterNumberIsWritten() {
        Bench x = new Bench();
        tenAxioms(x);
        Checks.due(x.detach(2, 8), 10);
        Checks.due(x.writeProof(10), 3);
        Checks.due(x.output(), "D39");
    }

    static void promise16_partsAreWrittenInFull() {
        Bench x = Bench.with("CaCba", "CCaCbcCCabCac");
        Checks.due(x.proof("DD211"), 3);
        Checks.due(x.detach(0, 3), 4);
        Checks.due(x.writeProof(4), 7);
        Checks.due(x.output(), "D1DD211");
    }

    static void promise16_signs99AreWritten() {
        Bench x = new Bench();
        proofsOf49And50(x);
        Checks.due(x.writeProof(10), 99);
        Checks.due(x.outputLength(), 99);
        Checks.due(x.outputAt(0), 'D');
        Checks.due(x.outputAt(98), '1');
        Checks.due(x.outputAt(99), Checks.NO_SUCH);
        Checks.due(x.output().replace("D", "").length(), 50);
    }

    static void promise16_signs101AreTooLarge() {
        Bench x = new Bench();
        proofsOf49And50(x);
        Checks.due(x.writeProof(11), Checks.LARGE);
        Checks.due(x.outputLength(), 0);
    }

    static void promise16_proofOfMoreThanAnIntHoldsIsTooLarge() {
        Bench x = longProofs();
        Checks.due(x.writeProof(59), Checks.LARGE);
        Checks.due(x.writeProof(5), 63);
        Checks.due(x.writeProof(6), Checks.LARGE);
    }

    static void promise16_noSuchElementLeavesAll() {
        Checks.leavesAll(Checks::busy, x -> x.writeProof(4), Checks.NO_SUCH);
    }

    static void promise16_tooLargeLeavesAll() {
        Checks.leavesAll(x -> {
            tenAxioms(x);
            x.writeFormula(3);
            x.type("abc");
        }, x -> x.writeProof(9), Checks.LARGE);
        Checks.leavesAll(x -> {
            proofsOf49And50(x);
            x.writeProof(3);
        }, x -> x.writeProof(11), Checks.LARGE);
    }

    static void promise16_onlyTheOutputChanges() {
        Checks.same(Checks::busy, x -> {
            Checks.busy(x);
            x.writeProof(0);
            x.writeProof(2);
        });
    }

    // ---- promises 17 and 18 ----

    static void promise17_emptyOutput() {
        Checks.due(new Bench().outputLength(), 0);
    }

    static void promise17_outputOfOneSign() {
        Bench x = Bench.with("a");
        x.writeFormula(0);
        Checks.due(x.outputLength(), 1);
    }

    static void promise17_outputOf99Signs() {
        Bench x = new Bench();
        proofsOf49And50(x);
        x.writeProof(10);
        Checks.due(x.outputLength(), 99);
    }

    static void promise17_outputStaysWhenItsFormulaIsCut() {
        Bench x = Bench.with("CaCba");
        x.writeFormula(0);
        x.cut(0);
        Checks.due(x.outputLength(), 5);
        Checks.due(x.output(), "CaCba");
    }

    static void promise17_leavesAll() {
        Checks.leavesAll(Checks::busy, x -> x.outputLength(), 3);
    }

    static void promise18_firstAndLastIndex() {
        Bench x = Bench.with("CaCbc");
        x.writeFormula(0);
        Checks.due(x.outputAt(0), 'C');
        Checks.due(x.outputAt(4), 'c');
    }

    static void promise18_indexesOutsideAreNoSuchElement() {
        Bench x = Bench.with("CaCbc");
        x.writeFormula(0);
        for (int index : new int[] {-1, 5, 80, 119, 120, Checks.MIN, Checks.MAX}) {
            Checks.due(x.outputAt(index), Checks.NO_SUCH);
        }
    }

    static void promise18_emptyOutput() {
        Bench x = new Bench();
        Checks.due(x.outputAt(0), Checks.NO_SUCH);
        Checks.due(x.outputAt(-1), Checks.NO_SUCH);
    }

    static void promise18_whatALongerOutputHadIsGone() {
        Bench x = Bench.with("CaCbc", "Cab");
        x.writeFormula(0);
        x.writeFormula(1);
        Checks.due(x.outputAt(2), 'b');
        Checks.due(x.outputAt(3), Checks.NO_SUCH);
        Checks.due(x.outputAt(4), Checks.NO_SUCH);
    }

    static void promise18_leavesAll() {
        Checks.leavesAll(Checks::busy, x -> x.outputAt(3), Checks.NO_SUCH);
        Checks.leavesAll(Checks::busy, x -> x.outputAt(0), 'D');
    }
}
