/** What the sentences of the description say of ordinary cases, in their order. The boundary cases have a file of their own. */
public final class DescriptionTest {
    public static void main(String[] args) {
        Checks.run(DescriptionTest.class);
    }

    private static String detached(String major, String minor) {
        Bench x = new Bench();
        int first = x.axiom(major);
        int second = x.axiom(minor);
        int result = x.detach(first, second);
        return result < 0 ? "" + result : x.formula(result);
    }

    private static String unified(String first, String second) {
        Bench x = new Bench();
        int number = x.axiom(first);
        int result = x.unify(number, x.axiom(second));
        return result < 0 ? "" + result : x.output();
    }

    private static int instance(String formula, String general) {
        Bench x = new Bench();
        int number = x.axiom(formula);
        return x.isInstance(number, x.axiom(general));
    }

    private static String reducedOnce(String term) {
        Bench x = new Bench();
        Checks.due(x.reduced(term, 1), 1);
        return x.output();
    }

    // ---- formulas ----

    static void formulas_aVariableOrCWithTwoFormulas() {
        String[] formulas = {"p", "Cpq", "CCpqr", "CpCqr", "CCpqCrs", "CCCpqrCsCtu"};
        for (String formula : formulas) {
            Checks.due(new Bench().axiom(formula), 0);
            Checks.due(new Bench().axiom(formula + "p"), -100 - formula.length());
            Checks.due(new Bench().axiom("C" + formula), -101 - formula.length());
        }
    }

    static void formulas_antecedentComesBeforeTheConsequent() {
        Checks.due(detached("CCaaa", "Caa"), "a");
        Checks.due(detached("CCaaCba", "Caa"), "Cab");
        Checks.due(detached("CCabb", "CcCdc"), "Cab");
    }

    static void formulas_sizeIsTheNumberOfLetters() {
        Bench x = Bench.with("p", "Cpp", "CpCqp", "CCpCqrCCpqCpr");
        int[] sizes = {1, 3, 5, 13};
        for (int i = 0; i < 4; i++) {
            Checks.due(x.formulaSize(i), sizes[i]);
        }
    }

    static void formulas_variantsDifferByARenamingOneToOne() {
        Bench x = Bench.with("CaCbc");
        Checks.due(x.axiom("CcCba"), 0);
        Checks.due(x.axiom("CbCca"), 0);
        Checks.due(x.axiom("CaCba"), 1);
        Checks.due(x.axiom("CaCbb"), 2);
        Checks.due(x.axiom("CaCab"), 3);
        Checks.due(x.axiom("CaCaa"), 4);
    }

    static void formulas_instancesAriseBySubstitution() {
        Checks.due(instance("CCabCcCab", "CaCba"), 1);
        Checks.due(instance("CCabCcCba", "CaCba"), 0);
        Checks.due(instance("CCabCab", "Caa"), 1);
        Checks.due(instance("CCabCac", "Caa"), 0);
        Checks.due(instance("CaCba", "CCabCcCab"), 0);
        Checks.due(instance("CaCaa", "CaCba"), 1);
        Checks.due(instance("CaCba", "CaCaa"), 0);
        Checks.due(instance("CaCab", "CaCba"), 0);
    }

    static void formulas_areInstancesOfThemselves() {
        Bench x = Bench.with("p", "Cpp", "CpCqp", "CCpCqrCCpqCpr");
        for (int i = 0; i < 4; i++) {
            Checks.due(x.isInstance(i, i), 1);
        }
    }

    /** The list has no two variants, so that a round and a search alone can meet one. */
    static void formulas_areInstancesOfTheirVariants() {
        Bench x = Bench.with("Cpp");
        Checks.due(x.round(39), 0);
        x = Bench.with("CpCqp", "CCpCqrCCpqCpr");
        Checks.due(x.shortest(x.proof("DD211"), 4), 2);
    }

    static void formulas_areWrittenWithABCInTheirOrder() {
        Bench x = Bench.with("CzCyCxCyz", "CCqpCqr", "w");
        Checks.due(x.formula(0), "CaCbCcCba");
        Checks.due(x.formula(1), "CCabCac");
        Checks.due(x.formula(2), "a");
    }

    // ---- detachment ----

    static void detachment_unifiesByTheMostGeneralSubstitution() {
        Checks.due(unified("CaCbc", "CCddd"), "CCCabCabCab");
        Checks.due(unified("CaCbc", "CdCee"), "CaCbb");
        Checks.due(unified("CaCbCca", "CCdeCfg"), "CCabCcCdCab");
        Checks.due(unified("a", "CbCcb"), "CaCba");
    }

    static void detachment_minorVariablesAreRenamed() {
        Checks.due(detached("CaCba", "a"), "Cab");
        Checks.due(detached("CCabb", "CaCba"), "Cab");
        Checks.due(detached("CaCba", "CaCba"), "CaCbCcb");
    }

    static void detachment_resultIsTheConsequentAfterTheSubstitution() {
        Checks.due(detached("CCaCbcCCabCac", "CaCba"), "CCabCaa");
        Checks.due(detached("CCabCCbcCac", "CaCba"), "CCCabcCbc");
        Checks.due(detached("CaCaa", "Caa"), "CCaaCaa");
        Checks.due(detached("CCaCabCab", "CaCba"), "Caa");
        Checks.due(detached("Cab", "CaCba"), "a");
    }

    static void detachment_majorThatIsNoImplicationOrCannotBeUnifiedHasNoResult() {
        Checks.due(detached("a", "Caa"), "-4");
        Checks.due(detached("CCaab", "CaCab"), "-4");
        Checks.due(detached("CCCaaab", "CCabCba"), "-4");
    }

    // ---- the list ----

    static void list_newFormulaIsAppendedAndAVariantFound() {
        Bench x = new Bench();
        Checks.due(x.axiom("Cpp"), 0);
        Checks.due(x.axiom("CpCqp"), 1);
        Checks.due(x.axiom("Cqq"), 0);
        Checks.due(x.detach(1, 0), 2);
        Checks.due(x.detach(1, 0), 2);
        Checks.due(x.axiom("CqCpp"), 2);
        Checks.due(x.termType("KI"), 2);
        Checks.due(x.listSize(), 3);
    }

    static void list_formulaIsAnAxiomOrHasAMajorAndAMinorFormula() {
        Bench x = Bench.with("Cpp", "CpCqp");
        x.detach(1, 0);
        x.termType("S");
        Checks.due(x.majorOf(0), Checks.NONE);
        Checks.due(x.minorOf(0), Checks.NONE);
        Checks.due(x.majorOf(2), 1);
        Checks.due(x.minorOf(2), 0);
        Checks.due(x.majorOf(3), Checks.NONE);
        Checks.due(x.minorOf(3), Checks.NONE);
    }

    // ---- texts ----

    static void text_bufferAndOutputAreTwoTexts() {
        Bench x = Bench.with("CpCqp");
        x.type("Cpp");
        Checks.due(x.writeFormula(0), 5);
        Checks.due(x.output(), "CaCba");
        Checks.due(x.addAxiom(), 1);
        Checks.due(x.output(), "CaCba");
        Checks.due(x.formula(1), "Caa");
    }

    static void text_digitMeansTheFormulaBeforeItsNumber() {
        Bench x = Bench.with("p", "Cpp", "CpCqp", "CpCqq");
        for (int i = 0; i < 4; i++) {
            Checks.due(x.proof("" + (i + 1)), i);
        }
        Checks.due(x.proof("5"), -100);
    }

    static void text_majorFormulaComesFirstInAProof() {
        Bench x = Bench.with("CpCqp", "CCpCqrCCpqCpr");
        Checks.due(x.proof("D12"), 2);
        Checks.due(x.majorOf(2), 0);
        Checks.due(x.minorOf(2), 1);
        Checks.due(x.proof("D21"), 3);
        Checks.due(x.majorOf(3), 1);
        Checks.due(x.minorOf(3), 0);
    }

    static void text_termIsARowOfLettersAndTermsInParentheses() {
        String[] terms = {"S", "SK", "SKI", "(S)", "S(K)", "(SK)I", "S(KI)", "((S)(K))", "BCW(BCW)"};
        for (String term : terms) {
            Bench x = new Bench();
            Checks.due(x.reduced(term, 0), 0);
            Checks.due(x.reduced("(" + term + ")", 0), 0);
            Checks.due(x.reduced("(" + term, 0), -101 - term.length());
            Checks.due(x.reduced(term + ")", 0), -100 - term.length());
            Checks.due(x.reduced(term + "A", 0), -100 - term.length());
        }
    }

    static void text_errorPositionIsThatOfTheFirstCharacterThatCannotContinue() {
        Checks.due(new Bench().axiom("CpDqE"), -102);
        Checks.due(new Bench().axiom("CpqrDE"), -103);
        Checks.due(new Bench().axiom("CCp"), -103);
        Bench x = Bench.with("CpCqp", "Cpp");
        Checks.due(x.proof("D13"), -102);
        Checks.due(x.proof("DD1p0"), -103);
        Checks.due(x.proof("D1D2"), -104);
        Checks.due(x.termType("S(I)x)"), -104);
        Checks.due(x.termType("()"), -101);
        Checks.due(x.termType("S(I"), -103);
    }

    // ---- the matrix ----

    static void matrix_eachImplicationHasAValueInTheTable() {
        for (int entry = 0; entry < 9; entry++) {
            Bench x = Bench.with("Cab");
            for (int i = 0; i < 9; i++) {
                x.setEntry(i / 3, i % 3, i == entry ? 0 : 2);
            }
            Checks.due(x.refutation(0, 0), entry / 3);
            Checks.due(x.refutation(0, 1), entry % 3);
            Checks.due(x.countValuations(0, 0), 1);
            Checks.due(x.countValuations(0, 1), 0);
            Checks.due(x.countValuations(0, 2), 8);
        }
    }

    static void matrix_bitVStandsForTheValueV() {
        for (int value = 0; value < 3; value++) {
            Bench x = Bench.with("Cab");
            for (int i = 0; i < 9; i++) {
                x.setEntry(i / 3, i % 3, value);
            }
            for (int bits = 0; bits < 8; bits++) {
                x.setDesignated(bits);
                Checks.due(x.isValid(0), bits >> value & 1);
            }
        }
    }

    static void matrix_valuationsAreInLexicographicOrder() {
        Bench x = Bench.with("CCabb");
        int[][] steps = {{0, 0, 2, 0}, {0, 1, 2, 1}, {1, 0, 1, 0}};
        for (int[] step : steps) {
            Checks.due(x.refutation(0, 0), step[0]);
            Checks.due(x.refutation(0, 1), step[1]);
            x.setEntry(step[2], step[3], 2);
        }
        Checks.due(x.refutation(0, 0), Checks.NONE);
    }

    static void matrix_eachVariableHasEachValue() {
        String[] formulas = {"a", "Cab", "CaCbc", "CCabCcd"};
        int due = 1;
        for (String formula : formulas) {
            due *= 3;
            Bench x = Bench.with(formula);
            Checks.due(x.countValuations(0, 0) + x.countValuations(0, 1) + x.countValuations(0, 2), due);
        }
    }

    // ---- combinators ----

    static void combinators_applicationsAssociateToTheLeft() {
        Bench x = new Bench();
        String[][] same = {{"SKI", "((S)K)I"}, {"SKI", "((SK)I)"}, {"S(KI)", "S((K)(I))"}, {"SKIB(CW)", "(((SK)I)B)(CW)"}};
        for (String[] pair : same) {
            x.reduced(pair[1], 0);
            Checks.due(x.output(), pair[0]);
        }
        x.reduced("S(KI)", 0);
        Checks.due(x.output(), "S(KI)");
    }

    static void combinators_lettersReduceAsTheRulesSay() {
        Checks.due(reducedOnce("IS"), "S");
        Checks.due(reducedOnce("KSB"), "S");
        Checks.due(reducedOnce("SBCW"), "BW(CW)");
        Checks.due(reducedOnce("BSCW"), "S(CW)");
        Checks.due(reducedOnce("CSBW"), "SWB");
        Checks.due(reducedOnce("WSB"), "SBB");
    }

    static void combinators_argumentsAreWholeTerms() {
        Checks.due(reducedOnce("I(SB)"), "SB");
        Checks.due(reducedOnce("K(SB)(CW)"), "SB");
        Checks.due(reducedOnce("S(KB)(SC)(BW)"), "KB(BW)(SC(BW))");
        Checks.due(reducedOnce("B(KB)(SC)(BW)"), "KB(SC(BW))");
        Checks.due(reducedOnce("C(KB)(SC)(BW)"), "KB(BW)(SC)");
        Checks.due(reducedOnce("W(KB)(SC)"), "KB(SC)(SC)");
    }

    static void combinators_partThatBeginsFurthestToTheLeftIsReplaced() {
        Checks.due(reducedOnce("K(IS)(IB)"), "IS");
        Checks.due(reducedOnce("S(IS)(IB)"), "SS(IB)");
        Checks.due(reducedOnce("S(K(IS)B)(IB)"), "S(IS)(IB)");
        Checks.due(reducedOnce("I(IS)(IB)"), "IS(IB)");
        Checks.due(reducedOnce("SS(S(IB)(IC))"), "SS(SB(IC))");
    }

    static void combinators_lettersHaveTheirTypes() {
        String[][] types = {{"I", "Caa"}, {"K", "CaCba"}, {"S", "CCaCbcCCabCac"}, {"B", "CCabCCcaCcb"}, {"C", "CCaCbcCbCac"},
            {"W", "CCaCabCab"}};
        for (String[] type : types) {
            Bench x = new Bench();
            Checks.due(x.termType(type[0]), 0);
            Checks.due(x.formula(0), type[1]);
        }
    }

    static void combinators_typeOfAnApplicationIsTheResultOfD() {
        String letters = "IKSBCW";
        for (int i = 0; i < 36; i++) {
            Bench x = new Bench();
            int major = x.termType("" + letters.charAt(i / 6));
            int result = x.detach(major, x.termType("" + letters.charAt(i % 6)));
            Checks.due(x.termType("" + letters.charAt(i / 6) + letters.charAt(i % 6)), result);
        }
    }

    // ---- rows ----

    static void rows_elementsAreBytesCharsOrInts() {
        int[] values = {0, 1, -1, 127, 128, 255, 256, 32767, 32768, 65535, 65536, Checks.MIN, Checks.MAX};
        for (int value : values) {
            Bench x = new Bench();
            for (int type = 0; type < 3; type++) {
                x.allocate(type, type, 1);
                x.put(type, 0, value);
            }
            Checks.due(x.rowElement(0, 0), (byte) value);
            Checks.due(x.rowElement(1, 0), (char) value);
            Checks.due(x.rowElement(2, 0), value);
        }
    }
}
