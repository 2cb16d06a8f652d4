/** The boundary cases of the description: formulas, the list, texts, the matrix, combinators, rows, details, error codes. */
public final class DescriptionBoundariesTest {
    public static void main(String[] args) {
        Checks.run(DescriptionBoundariesTest.class);
    }

    // ---- formulas, detachment and the list ----

    static void formulas_oneLetterIsTheLeastAnd39TheGreatestSize() {
        Bench x = Bench.with("z", Checks.leftFormula(39));
        Checks.due(x.formulaSize(0), 1);
        Checks.due(x.formulaSize(1), 39);
        Checks.due(x.axiom(Checks.leftFormula(41)), Checks.LARGE);
    }

    static void formulas_12VariablesAreTheMost() {
        Bench x = Bench.with(Checks.chain(11, "l"));
        Checks.due(x.variableCount(0), 12);
        Checks.due(x.axiom(Checks.chain(12, "m")), Checks.LARGE);
    }

    static void formulas_variablesAreNamedInTheirOrder() {
        Bench x = Bench.with("CzCyCxCyz");
        Checks.due(x.formula(0), "CaCbCcCba");
    }

    static void formulas_variantsAreInstancesOfEachOther() {
        Bench x = Bench.with("CCpqCqp");
        Checks.due(x.axiom("CCqpCpq"), 0);
        Checks.due(x.isInstance(0, 0), 1);
    }

    static void detachment_majorThatIsAVariableHasNoResult() {
        Bench x = Bench.with("a", "Caa");
        Checks.due(x.detach(0, 1), Checks.NONE);
        Checks.due(x.proof("D12"), Checks.NONE);
    }

    static void detachment_shortestMajor() {
        Bench x = Bench.with("Cab", "a", "Caa");
        Checks.due(x.detach(0, 0), 1);
        Checks.due(x.detach(0, 1), 1);
        Checks.due(x.detach(2, 0), 0);
        Checks.due(x.detach(2, 1), 1);
    }

    static void list_isEmptyAtFirstAndNumberedFrom0To59() {
        Bench x = new Bench();
        Checks.due(x.listSize(), 0);
        x.fillFromRow(60);
        Checks.due(x.listSize(), 60);
        Checks.due(x.formulaSize(0), 3);
        Checks.due(x.formulaSize(59) > 0 ? 1 : 0, 1);
        Checks.due(x.formulaSize(60), Checks.NO_SUCH);
    }

    static void list_noTwoFormulasAreVariants() {
        for (int i = 0; i < 60; i++) {
            Bench x = new Bench();
            x.fillWithTypes(60);
            for (int k = 0; k < i; k++) {
                Checks.due(x.isInstance(i, k) * x.isInstance(k, i), 0);
            }
        }
    }

    static void list_derivedFormulasComeFromSmallerNumbers() {
        Bench x = new Bench();
        x.fillWithTypes(60);
        for (int i = 0; i < 60; i++) {
            Checks.due(x.majorOf(i) < i ? 1 : 0, 1);
            Checks.due(x.minorOf(i) < i ? 1 : 0, 1);
        }
    }

    // ---- texts, matrix, combinators and rows ----

    static void text_80CharactersAreTheMost() {
        Bench x = new Bench();
        for (int i = 1; i <= 80; i++) {
            Checks.due(x.append('C'), i);
        }
        Checks.due(x.append('C'), Checks.FULL);
        Checks.due(x.addAxiom(), -180);
    }

    static void text_eightParenthesesAreTheMostAtATime() {
        Bench x = new Bench();
        Checks.due(x.termType("((((((((I))))))))"), 0);
        Checks.due(x.termType("(((((((((I)))))))))"), -108);
        Checks.due(x.reduced("((((((((I))))))))", 0), 0);
        Checks.due(x.reduced("(((((((((I)))))))))", 0), -108);
    }

    static void matrix_firstValuesAreThoseOfTheSum() {
        Bench x = new Bench();
        for (int i = 0; i < 9; i++) {
            Checks.due(x.setEntry(i / 3, i % 3, 0), Math.min(2, 2 - i / 3 + i % 3));
        }
        Checks.due(x.setDesignated(0), 1 << 2);
    }

    static void combinators_typeOfAnApplicationIsThatOfD() {
        Bench x = new Bench();
        Checks.due(x.termType("S"), 0);
        Checks.due(x.termType("K"), 1);
        Checks.due(x.detach(0, 1), 2);
        Checks.due(x.termType("SK"), 2);
    }

    static void rows_threeOfAtMost80Elements() {
        Bench x = new Bench();
        Checks.due(x.allocate(0, 0, 80), 80);
        Checks.due(x.allocate(1, 1, 80), 80);
        Checks.due(x.allocate(2, 2, 80), 80);
        Checks.due(x.allocate(3, 0, 80), Checks.NO_SUCH);
        Checks.due(x.allocate(2, 2, 81), Checks.BAD);
    }

    static void rows_standApartFromEachOther() {
        Bench x = new Bench();
        for (int row = 0; row < 3; row++) {
            x.allocate(row, 2, 2);
            x.put(row, row == 1 ? 1 : 0, 7 + row);
        }
        Checks.due(x.elements(0), "7 0 ");
        Checks.due(x.elements(1), "0 8 ");
        Checks.due(x.elements(2), "9 0 ");
    }

    // ---- details, a test for each sentence ----

    static void details_derivedFormulaStaysDerivedWhenItIsAddedAsAnAxiom() {
        Bench x = Bench.with("CaCba");
        x.detach(0, 0);
        Checks.due(x.axiom("CpCqCrq"), 1);
        Checks.due(x.majorOf(1), 0);
        Checks.due(x.proofDepth(1), 1);
        Checks.due(x.proofOf(1), "D11");
    }

    static void details_proofThatIsADigitEntersNothing() {
        Checks.emptiesTextOnly(x -> {
            Checks.full(x);
            x.clearText();
            x.append('9');
        }, x -> x.prove(), 8);
    }

    static void details_resultsAreEnteredWhenTheirPartsEnd() {
        Bench x = Bench.with("CaCba", "CCaCbcCCabCac");
        Checks.due(x.proof("DDD212DD221"), Checks.NONE);
        Checks.due(x.proof("DD2D121"), 4);
        Checks.due(x.proofOf(2), "D12");
        Checks.due(x.proofOf(3), "D2D12");
        Checks.due(x.proofOf(4), "DD2D121");
    }

    static void details_resultsOfAProofCountForThe60Formulas() {
        Bench x = new Bench();
        x.fillWithTypes(59);
        Checks.due(x.proof("D2D21"), Checks.FULL);
        Checks.due(x.listSize(), 59);
        x.cut(58);
        Checks.due(x.proof("D2D21"), 59);
        Checks.due(x.listSize(), 60);
    }

    static void details_textIsEmptyAfterEveryReduceTerm() {
        for (int steps : new int[] {-1, 0, 1, 50, 51, Checks.MIN, Checks.MAX}) {
            for (String text : new String[] {"", "SKKI", "SKKIa", "I" + "S".repeat(41)}) {
                Bench x = new Bench();
                x.reduced(text, steps);
                Checks.due(x.clearText(), 0);
            }
        }
    }

    static void details_outputStaysWhenATermBecomesTooLarge() {
        Bench x = new Bench();
        Checks.due(x.reduced("SKKI", 0), 0);
        Checks.due(x.reduced("I(S(SB))WIW", 50), Checks.LARGE);
        Checks.due(x.output(), "SKKI");
    }

    static void details_roundThatBeginsWith60FormulasAppends0() {
        Bench x = new Bench();
        x.fillWithTypes(60);
        Checks.due(x.round(1), 0);
        Checks.due(x.round(39), 0);
        Checks.due(x.listSize(), 60);
    }

    static void details_axiomsThatWereAddedLaterCountForShortestProofs() {
        Bench x = Bench.with("CaCba");
        Checks.due(x.proof("D1D1D11"), 3);
        Checks.due(x.shortest(3, 4), 3);
        Checks.due(x.axiom("CaCbCca"), 4);
        Checks.due(x.shortest(3, 4), 2);
        x.cut(4);
        Checks.due(x.shortest(3, 4), 3);
    }

    static void details_formulaThatComesUpAgainCountsOnce() {
        Bench x = Bench.with("CaCaa", "CaCbCcc", "CaCba");
        Checks.due(x.proof("D21"), 3);
        Checks.due(x.proof("D22"), 3);
        int goal = x.proof("D3D3D3D33");
        Checks.due(x.shortest(goal, 4), 4);
    }

    static void details_with0DetachmentsOnlyInstancesOfAxiomsHaveAProof() {
        Bench x = Bench.with("CaCbCac", "CaCba");
        Checks.due(x.proof("D22"), 2);
        Checks.due(x.shortest(0, 0), 0);
        Checks.due(x.shortest(2, 0), Checks.NONE);
        Checks.due(x.axiom("CaCbc"), 3);
        Checks.due(x.shortest(2, 0), 0);
    }

    static void details_proofThatNeedsAnAxiomAbove8CannotBeWritten() {
        Bench x = Bench.with("a", "Cab", "Caa", "CaCab", "CaCbb", "CaCbc", "CCaaa", "CCaab", "CCabb", "CaCba");
        Checks.due(x.writeProof(8), 1);
        Checks.due(x.writeProof(9), Checks.LARGE);
        Checks.due(x.detach(9, 8), 10);
        Checks.due(x.writeProof(10), Checks.LARGE);
    }

    static void details_unifiedFormulasAreWrittenByFirstOccurrences() {
        Bench x = Bench.with("CCabb", "CCaaCbc");
        Checks.due(x.unify(0, 1), 11);
        Checks.due(x.output(), "CCCabCabCab");
        Checks.due(x.unify(1, 0), 11);
        Checks.due(x.output(), "CCCabCabCab");
    }

    static void details_textLoadedFromARowEndsWhereAppendRefuses() {
        Bench x = new Bench();
        x.allocate(0, 1, 4);
        x.put(0, 0, 'C');
        x.put(0, 1, 'a');
        x.put(0, 2, 200);
        x.put(0, 3, 'b');
        Checks.due(x.loadText(0, 0, 4), 2);
        Checks.due(x.axiom("a"), 0);
        Checks.due(x.formula(0), "Caa");
    }

    static void details_withoutDesignatedValuesNormalAndNothingValid() {
        Bench x = Bench.with("Caa", "CaCba");
        x.setDesignated(0);
        Checks.due(x.isNormal(), 1);
        Checks.due(x.isValid(0), 0);
        Checks.due(x.isValid(1), 0);
        Checks.due(x.refutation(1, 1), 0);
    }

    static void details_characterBehindAWholeFormulaIsAnErrorThere() {
        Checks.due(new Bench().axiom("Cabc"), -103);
        Checks.due(Bench.with("a").proof("11"), -101);
        Checks.due(new Bench().termType("S)"), -101);
        Checks.due(new Bench().reduced("S)", 0), -101);
    }

    static void details_newRowReplacesAnEarlierOne() {
        Bench x = new Bench();
        x.allocate(1, 0, 3);
        x.put(1, 2, 5);
        Checks.due(x.allocate(1, 2, 4), 4);
        Checks.due(x.elements(1), "0 0 0 0 ");
    }

    // ---- error codes ----

    static void errorCodes_haveTheirValues() {
        int[] codes = {CondensedDetachment.NO_SUCH_ELEMENT, CondensedDetachment.BAD_VALUE, CondensedDetachment.FULL,
            CondensedDetachment.NONE, CondensedDetachment.TOO_LARGE, CondensedDetachment.MISSING_ROW,
            CondensedDetachment.WRONG_TYPE, CondensedDetachment.OUT_OF_BOUNDS, CondensedDetachment.NEGATIVE_LENGTH};
        for (int i = 0; i < codes.length; i++) {
            Checks.due(codes[i], -1 - i);
        }
    }

    static void errorCodes_refusalsOfANewObjectLeaveItNew() {
        Checks.same(x -> { }, x -> {
            x.append(32);
            x.addAxiom();
            x.detach(0, 0);
            x.prove();
            x.cut(1);
            x.writeFormula(0);
            x.writeProof(0);
            x.unify(0, 0);
            x.round(40);
            x.shortest(0, 5);
            x.setEntry(3, 3, 3);
            x.setDesignated(8);
            x.addType();
            x.reduceTerm(51);
            x.allocate(0, 0, -1);
            x.put(0, 0, 0);
            x.copyElements(0, 0, 0, 0, 0);
            x.storeOutput(0, 0);
            x.loadText(0, 0, 0);
        });
    }
}
