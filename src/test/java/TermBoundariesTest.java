/** The boundary cases of the promises 30 and 31: addType and reduceTerm. */
public final class TermBoundariesTest {
    /** The size of its type is 39. */
    private static final String TYPE_OF_39 = "CW(SC)";
    /** The type of this application would have the size 41; those of its parts have smaller ones. */
    private static final String TYPE_OF_41 = "C(WB)S";
    private static final String NO_TYPE = "SII";
    /** The type has 12 variables; with one more B in front of K it would have 13. */
    private static final String TWELVE_VARIABLES = "K(BKK(BKK(BKK(BKK(BKKI)))))";
    private static final String THIRTEEN_VARIABLES = "BKK(BKK(BKK(BKK(BKK(BKKI)))))";

    public static void main(String[] args) {
        Checks.run(TermBoundariesTest.class);
    }

    private static int termType(String text) {
        return new Bench().termType(text);
    }

    private static int reduced(String text, int steps) {
        return new Bench().reduced(text, steps);
    }

    private static void dueStep(String term, String after) {
        Bench x = new Bench();
        Checks.due(x.reduced(term, 1), 1);
        Checks.due(x.output(), after);
    }

    private static void dueNoStep(String term, String written) {
        Bench x = new Bench();
        Checks.due(x.reduced(term, 50), 0);
        Checks.due(x.output(), written);
    }

    private static String nested(int depth, String inner) {
        return "(".repeat(depth) + inner + ")".repeat(depth);
    }

    // ---- the grammar, for both promises alike ----

    private static void dueError(String text, int answer) {
        Bench x = new Bench();
        Checks.due(x.termType(text), answer);
        Checks.due(x.reduced(text, 0), answer);
        Checks.due(x.reduced(text, 50), answer);
        Checks.due(x.listSize(), 0);
    }

    private static void dueTerm(String text, String written) {
        Bench x = new Bench();
        Checks.due(x.reduced(text, 0), 0);
        Checks.due(x.output(), written);
    }

    static void promise30and31_emptyTextEndsTooEarly() {
        dueError("", -100);
    }

    static void promise30and31_eachLetterAlone() {
        for (char letter : "SKIBCW".toCharArray()) {
            dueTerm("" + letter, "" + letter);
            Checks.due(termType("" + letter), 0);
        }
    }

    static void promise30and31_allOtherSignsAreErrors() {
        for (char sign = 33; sign <= 126; sign++) {
            if ("SKIBCW(".indexOf(sign) < 0) {
                dueError("" + sign, -100);
            }
            if ("SKIBCW()".indexOf(sign) < 0) {
                Checks.due(termType("S" + sign), -101);
                Checks.due(reduced("(S" + sign, 1), -102);
            }
        }
    }

    static void promise30and31_termThatEndsTooEarly() {
        dueError("(", -101);
        dueError("S(", -102);
        dueError("(S", -102);
        dueError("((S)", -104);
        dueError("S".repeat(79) + "(", -180);
        dueError("(" + "S".repeat(79), -180);
    }

    static void promise30and31_closingSignBehindAWholeTermIsAnErrorThere() {
        dueError("S)", -101);
        dueError("(S))", -103);
        dueError("S".repeat(79) + ")", -179);
    }

    static void promise30and31_emptyParentheses() {
        dueError("()", -101);
        dueError("S()", -102);
        dueError("(())", -102);
    }

    static void promise30and31_firstOfTwoErrorsCounts() {
        dueError("Sa)b", -101);
        dueError("(((((((((a", -108);
    }

    static void promise30and31_eightOpenAreTaken() {
        dueTerm(nested(8, "S"), "S");
        dueTerm("S" + nested(8, "SK"), "S(SK)");
        Checks.due(termType(nested(8, "S")), 0);
    }

    static void promise30and31_theNinthOpenIsAnError() {
        dueError(nested(9, "S"), -108);
        dueError("S" + nested(9, "S"), -109);
        dueError("(".repeat(80), -108);
        dueError("S(".repeat(9), -117);
    }

    static void promise30and31_moreThanEightAreTakenWhenSomeAreClosed() {
        dueTerm(nested(8, "S") + nested(8, "K") + nested(8, "I"), "SKI");
        dueTerm("(S)".repeat(26), "S".repeat(26));
        dueTerm(nested(7, "(S)(K)(I)"), "SKI");
    }

    static void promise30and31_theNinthOpenLater() {
        dueError(nested(8, "S") + nested(9, "K"), -125);
        dueError("(((((((" + "(S)" + "((K))", -111);
    }

    static void promise30and31_fullText() {
        dueTerm("S".repeat(80), "S".repeat(80));
        Checks.due(termType("I".repeat(80)), 0);
    }

    // ---- promise 30 ----

    static void promise30_typesOfTheLetters() {
        String[] types = {"CCaCbcCCabCac", "CaCba", "Caa", "CCabCCcaCcb", "CCaCbcCbCac", "CCaCabCab"};
        for (int i = 0; i < 6; i++) {
            Bench x = new Bench();
            Checks.due(x.termType("" + "SKIBCW".charAt(i)), 0);
            Checks.due(x.formula(0), types[i]);
        }
    }

    static void promise30_newTypeIsAnAxiom() {
        Bench x = new Bench();
        Checks.due(x.termType("SK"), 0);
        Checks.due(x.majorOf(0), Checks.NONE);
        Checks.due(x.listSize(), 1);
        Checks.due(x.formula(0), "CCabCaa");
    }

    static void promise30_variantIsFound() {
        Bench x = Bench.with("a", "Cpp");
        Checks.due(x.termType("SKK"), 1);
        Checks.due(x.listSize(), 2);
    }

    static void promise30_variantOfADerivedFormulaLeavesItDerived() {
        Bench x = new Bench();
        Checks.busy(x);
        x.clearText();
        Checks.due(x.termType("I"), 3);
        Checks.due(x.majorOf(3), 2);
    }

    static void promise30_size39IsTaken() {
        Bench x = new Bench();
        Checks.due(x.termType(TYPE_OF_39), 0);
        Checks.due(x.formulaSize(0), 39);
    }

    static void promise30_size41IsTooLarge() {
        Checks.due(termType(TYPE_OF_41), Checks.LARGE);
    }

    static void promise30_variables12AreTaken() {
        Bench x = new Bench();
        Checks.due(x.termType(TWELVE_VARIABLES), 0);
        Checks.due(x.variableCount(0), 12);
    }

    static void promise30_variables13AreTooLarge() {
        Checks.due(termType(THIRTEEN_VARIABLES), Checks.LARGE);
    }

    static void promise30_partThatIsTooLargeIsEnough() {
        Checks.due(termType("K(S(S(SS)))"), Checks.LARGE);
        Checks.due(termType("KI(S(S(SS)))"), Checks.LARGE);
    }

    static void promise30_partWithoutATypeIsEnough() {
        Checks.due(termType(NO_TYPE), Checks.NONE);
        Checks.due(termType("KI(SII)"), Checks.NONE);
    }

    static void promise30_firstApplicationThatEndsDecides() {
        Checks.due(termType("K(SII)(" + TYPE_OF_41 + ")"), Checks.NONE);
        Checks.due(termType("K(" + TYPE_OF_41 + ")(SII)"), Checks.LARGE);
        Checks.due(termType("SII(" + TYPE_OF_41 + ")"), Checks.NONE);
        Checks.due(termType("I(I(SII))(" + TYPE_OF_41 + ")"), Checks.NONE);
        Checks.due(termType("SI(" + TYPE_OF_41 + ")I"), Checks.LARGE);
    }

    static void promise30_eightLevels() {
        Bench x = new Bench();
        Checks.due(x.termType("K(K(K(K(K(K(K(K(KI))))))))"), 0);
        Checks.due(x.formula(0), Checks.chain(9, "Cjj"));
        Checks.due(x.termType("I(I(I(I(I(I(I(I(IK))))))))"), 1);
        Checks.due(x.formula(1), "CaCba");
    }

    static void promise30_grammarIsCheckedBeforeAllElse() {
        Checks.due(termType("SIIa"), -103);
        Checks.due(termType(TYPE_OF_41 + ")"), -106);
        Bench x = new Bench();
        x.fillWithTypes(60);
        Checks.due(x.termType("SK)"), -102);
    }

    static void promise30_noneAndTooLargeAreCheckedBeforeFull() {
        Bench x = new Bench();
        x.fillWithTypes(60);
        Checks.due(x.termType(NO_TYPE), Checks.NONE);
        Checks.due(x.termType(TYPE_OF_41), Checks.LARGE);
        Checks.due(x.termType(THIRTEEN_VARIABLES), Checks.LARGE);
    }

    static void promise30_formula60IsTakenAndFormula61IsFull() {
        Bench x = new Bench();
        x.fillWithTypes(59);
        Checks.due(x.termType(TYPE_OF_39), 59);
        Checks.due(x.termType(TWELVE_VARIABLES), Checks.FULL);
        Checks.due(x.listSize(), 60);
    }

    static void promise30_oldTypeForAFullListIsFound() {
        Bench x = new Bench();
        x.fillWithTypes(60);
        Checks.due(x.termType("K"), 0);
        Checks.due(x.termType("S(CB)"), 59);
        Checks.due(x.termType("BW"), 21);
        Checks.due(x.termType("SK"), Checks.FULL);
    }

    static void promise30_typesOfPartsAreNotEntered() {
        Bench x = new Bench();
        x.fillWithTypes(59);
        Checks.due(x.termType("K(SK)(BW)"), 59);
        Checks.due(x.listSize(), 60);
        Checks.due(x.termType("SK"), 59);
    }

    static void promise30_grammarErrorEmptiesTheTextOnly() {
        Checks.emptiesTextOnly(x -> {
            Checks.busy(x);
            x.append(')');
        }, x -> x.addType(), -106);
    }

    static void promise30_noneEmptiesTheTextOnly() {
        Checks.emptiesTextOnly(x -> {
            Checks.busy(x);
            x.clearText();
            x.type("K(SK)(SII)");
        }, x -> x.addType(), Checks.NONE);
    }

    static void promise30_tooLargeEmptiesTheTextOnly() {
        Checks.emptiesTextOnly(x -> {
            Checks.busy(x);
            x.clearText();
            x.type(TYPE_OF_41);
        }, x -> x.addType(), Checks.LARGE);
    }

    static void promise30_fullEmptiesTheTextOnly() {
        Checks.emptiesTextOnly(x -> {
            Checks.full(x);
            x.clearText();
            x.type("SK");
        }, x -> x.addType(), Checks.FULL);
    }

    static void promise30_oldTypeEmptiesTheTextOnly() {
        Checks.emptiesTextOnly(x -> {
            Checks.busy(x);
            x.clearText();
            x.type("SKK");
        }, x -> x.addType(), 3);
    }

    // ---- promise 31: the number of steps ----

    static void promise31_stepsNegativeAreBadValue() {
        Checks.due(reduced("SKKI", -1), Checks.BAD);
        Checks.due(reduced("SKKI", Checks.MIN), Checks.BAD);
    }

    static void promise31_steps0AreTaken() {
        Bench x = new Bench();
        Checks.due(x.reduced("SKKI", 0), 0);
        Checks.due(x.output(), "SKKI");
    }

    static void promise31_steps50AreTaken() {
        Bench x = new Bench();
        Checks.due(x.reduced("WWW", 50), 50);
        Checks.due(x.output(), "WWW");
    }

    static void promise31_steps51AreBadValue() {
        Checks.due(reduced("WWW", 51), Checks.BAD);
        Checks.due(reduced("WWW", Checks.MAX), Checks.BAD);
    }

    static void promise31_badValueIsCheckedBeforeTheGrammar() {
        Checks.due(reduced("", 51), Checks.BAD);
        Checks.due(reduced("a", -1), Checks.BAD);
        Checks.due(reduced("(", 51), Checks.BAD);
    }

    static void promise31_grammarIsCheckedBeforeTooLarge() {
        Checks.due(reduced("I" + "S".repeat(41) + ")", 1), -142);
        Checks.due(reduced("I" + "S".repeat(41) + "a", 0), -142);
    }

    static void promise31_endsEarlyWhenNoPartReduces() {
        Bench x = new Bench();
        Checks.due(x.reduced("SKKI", 50), 2);
        Checks.due(x.output(), "I");
        Checks.due(x.reduced("SKKI", 3), 2);
        Checks.due(x.reduced("SKKI", 2), 2);
        Checks.due(x.reduced("SKKI", 1), 1);
        Checks.due(x.output(), "KI(KI)");
    }

    static void promise31_termOf50StepsEnds() {
        Bench x = new Bench();
        Checks.due(x.reduced("I(W(SII))(CW(CWKS)W)B", 50), 50);
        Checks.due(x.output(), "B");
        Checks.due(x.reduced("I(W(SII))(CW(CWKS)W)B", 49), 49);
        Checks.due(x.output(), "KB(KB)");
    }

    static void promise31_termOf51StepsEndsOneBeforeItsEnd() {
        Bench x = new Bench();
        Checks.due(x.reduced("WBSWCS(K(IB)S)II", 50), 50);
        Checks.due(x.output(), "II");
    }

    // ---- promise 31: the reductions ----

    static void promise31_eachLetterWithAllArguments() {
        dueStep("IS", "S");
        dueStep("KSI", "S");
        dueStep("SKBW", "KW(BW)");
        dueStep("BSKI", "S(KI)");
        dueStep("CSKI", "SIK");
        dueStep("WSK", "SKK");
    }

    static void promise31_eachLetterWithOneArgumentLess() {
        dueNoStep("I", "I");
        dueNoStep("KS", "KS");
        dueNoStep("SKB", "SKB");
        dueNoStep("BSK", "BSK");
        dueNoStep("CSK", "CSK");
        dueNoStep("WS", "WS");
    }

    static void promise31_eachLetterWithOneArgumentMore() {
        dueStep("ISK", "SK");
        dueStep("KSIB", "SB");
        dueStep("SKBWI", "KW(BW)I");
        dueStep("BSKIW", "S(KI)W");
        dueStep("CSKIW", "SIKW");
        dueStep("WSKB", "SKKB");
    }

    static void promise31_argumentsThatAreApplications() {
        dueStep("I(SK)", "SK");
        dueStep("K(SK)(SS)", "SK");
        dueStep("S(KI)(SK)(BB)", "KI(BB)(SK(BB))");
        dueStep("B(SK)(KI)(CC)", "SK(KI(CC))");
        dueStep("C(SK)(KI)(BB)", "SK(BB)(KI)");
        dueStep("W(SK)(KI)", "SK(KI)(KI)");
    }

    static void promise31_partThatBeginsFurthestToTheLeft() {
        dueStep("II(II)", "I(II)");
        dueStep("S(II)(II)", "SI(II)");
        dueStep("K(II)(II)", "II");
        dueStep("S(K(II))", "S(KI)");
        dueStep("SS(KII)(II)", "S(II)(KII(II))");
        dueStep("((K)(I))(II)", "I");
        dueStep("B(KI)(SK)(WI)S", "KI(SK(WI))S");
    }

    static void promise31_leastNumberOfParentheses() {
        dueTerm("((S)(K))", "SK");
        dueTerm("(SK)I", "SKI");
        dueTerm("S(KI)", "S(KI)");
        dueTerm("((S)((K)((I))))", "S(KI)");
        dueTerm("S(((KI)))(B)", "S(KI)B");
        dueTerm("(S(K(IB)))", "S(K(IB))");
    }

    static void promise31_earlierTermDoesNotMatter() {
        Bench x = new Bench();
        Checks.due(x.reduced("S(KI)(S(KI))", 0), 0);
        Checks.due(x.reduced("SKISKI", 0), 0);
        Checks.due(x.output(), "SKISKI");
    }

    // ---- promise 31: the size ----

    private static String block(int size) {
        return "(" + "S".repeat(size) + ")";
    }

    /** The step is made with a block of a size in place of the x, and not with a block of one letter more. */
    private static void dueLast(String term, int size) {
        Checks.due(reduced(term.replace("x", block(size)), 1), 1);
        Checks.due(reduced(term.replace("x", block(size + 1)), 1), Checks.LARGE);
    }

    static void promise31_sizeOfEachArgumentCounts() {
        dueLast("Ix", 40);
        dueLast("KxB", 40);
        dueLast("SxKB", 37);
        dueLast("SKxB", 37);
        dueLast("SKBx", 19);
        dueLast("BxKI", 38);
        dueLast("BKxI", 38);
        dueLast("BKIx", 38);
        dueLast("CxKI", 38);
        dueLast("CKxI", 38);
        dueLast("CKIx", 38);
        dueLast("WxK", 38);
        dueLast("WKx", 19);
    }

    static void promise31_sizeOfAllAroundTheReducedPartCounts() {
        dueLast("S(Ix)", 39);
        dueLast("S(Ix)K", 38);
        dueLast("SK(Ix)", 38);
        dueLast("IKx", 39);
        dueLast("S(WKx)", 19);
        dueLast("S(K(S(Ix)))", 37);
    }

    static void promise31_argumentThatIsDroppedDoesNotCount() {
        Checks.due(reduced("KS" + block(70), 1), 1);
        Checks.due(reduced("KS" + block(70) + "S".repeat(6), 1), 1);
    }

    static void promise31_stepToSize40IsMade() {
        Bench x = new Bench();
        Checks.due(x.reduced("I" + "S".repeat(40), 1), 1);
        Checks.due(x.output(), "S".repeat(40));
    }

    static void promise31_stepToSize41IsTooLarge() {
        Checks.due(reduced("I" + "S".repeat(41), 1), Checks.LARGE);
    }

    static void promise31_growingStepToSize40IsMadeAndTo41IsTooLarge() {
        String twenty = block(20);
        String nineteen = block(19);
        Bench x = new Bench();
        Checks.due(x.reduced("WS" + nineteen + "K", 1), 1);
        Checks.due(x.output(), "S" + nineteen + nineteen + "K");
        Checks.due(x.reduced("WS" + nineteen + "KK", 1), Checks.LARGE);
        Checks.due(x.reduced("WI" + twenty, 1), Checks.LARGE);
    }

    static void promise31_stepThatShrinksToSize41IsTooLarge() {
        Checks.due(reduced("KI(" + "S".repeat(30) + ")" + "S".repeat(41), 1), Checks.LARGE);
        Checks.due(reduced("KI(" + "S".repeat(30) + ")" + "S".repeat(39), 1), 1);
    }

    static void promise31_termOf80LettersIsTakenWithoutAStep() {
        Bench x = new Bench();
        Checks.due(x.reduced("S".repeat(80), 0), 0);
        Checks.due(x.outputLength(), 80);
        Checks.due(x.reduced("S".repeat(80), 1), Checks.LARGE);
        Checks.due(x.outputLength(), 80);
    }

    static void promise31_termOf41LettersThatDoesNotReduce() {
        String seven = "S(SSS)(SSS)";
        String fifteen = "S(" + seven + ")(" + seven + ")";
        String fortyOne = "S(S(" + fifteen + ")(" + fifteen + "))(S(SSS)(SS(SSS)))";
        dueNoStep(fortyOne, fortyOne);
    }

    static void promise31_tooLargeOnlyIfTheStepIsAskedFor() {
        Bench x = new Bench();
        Checks.due(x.reduced("I(S(SB))WIW", 49), 49);
        Checks.due(x.reduced("I(S(SB))WIW", 50), Checks.LARGE);
        Checks.due(x.reduced("I(WI(WSIW)WI)", 50), 50);
    }

    static void promise31_outputOf104SignsWith34Open() {
        Bench x = new Bench();
        Checks.due(x.reduced("WB(WB(WB(WB(BSS))))(S(S(SS)))", 50), 46);
        Checks.due(x.outputLength(), 104);
        Checks.due(x.output(), "S(".repeat(34) + "SS" + ")".repeat(34));
        Checks.due(x.outputAt(104), Checks.NO_SUCH);
    }

    // ---- promise 31: what stands ----

    static void promise31_badValueEmptiesTheTextOnly() {
        Checks.emptiesTextOnly(Checks::busy, x -> x.reduceTerm(51), Checks.BAD);
        Checks.emptiesTextOnly(Checks::busy, x -> x.reduceTerm(-1), Checks.BAD);
    }

    static void promise31_grammarErrorEmptiesTheTextOnly() {
        Checks.emptiesTextOnly(x -> {
            Checks.busy(x);
            x.append(')');
        }, x -> x.reduceTerm(1), -106);
    }

    static void promise31_tooLargeEmptiesTheTextOnly() {
        Checks.emptiesTextOnly(x -> {
            Checks.busy(x);
            x.clearText();
            x.type("I" + "S".repeat(41));
        }, x -> x.reduceTerm(50), Checks.LARGE);
        Checks.emptiesTextOnly(x -> {
            Checks.busy(x);
            x.clearText();
            x.type("I(S(SB))WIW");
        }, x -> x.reduceTerm(50), Checks.LARGE);
    }

    static void promise31_successEmptiesTheTextAndReplacesTheOutput() {
        Checks.same(x -> {
            Checks.busy(x);
            x.clearText();
            x.writeProof(2);
        }, x -> {
            Checks.busy(x);
            Checks.due(x.reduceTerm(1), 0);
            Checks.due(x.clearText(), 0);
            Checks.due(x.output(), "S(KI)W");
            x.writeProof(2);
        });
    }

    static void promise31_emptyTextWithoutSteps() {
        Checks.due(reduced("", 0), -100);
    }
}
