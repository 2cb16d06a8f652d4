/** For each promise of the document ordinary inputs, the edges that it names and wrong inputs. */
public final class PromisesTest {
    private static final int NO_SUCH = -1;
    private static final int BAD = -2;
    private static final int FULL = -3;
    private static final int NONE = -4;
    private static final int LARGE = -5;
    private static final int MISSING = -6;
    private static final int TYPE = -7;
    private static final int BOUNDS = -8;
    private static final int NEGATIVE = -9;
    private static final int[] NO_FORMULAS = {-1, 3, 60, Integer.MIN_VALUE, Integer.MAX_VALUE};

    private static int wrong = 0;
    private static int promise = 0;

    private static void due(String call, long got, long want) {
        if (got != want) {
            wrong++;
            System.out.println("promise " + promise + ": " + call + " answered " + got + ", due is " + want);
        }
    }

    private static void dueOutput(String what, Bench x, String want) {
        String got = x.output();
        if (!want.equals(got)) {
            wrong++;
            System.out.println("promise " + promise + ": " + what + " wrote " + got + ", due is " + want);
        }
    }

    private static void dueFormula(Bench x, int formula, String want) {
        due("writeFormula(" + formula + ")", x.writeFormula(formula), want.length());
        dueOutput("writeFormula(" + formula + ")", x, want);
    }

    private static Bench with(String... axioms) {
        Bench x = new Bench();
        for (int i = 0; i < axioms.length; i++) {
            due("addAxiom() of " + axioms[i], x.axiom(axioms[i]), i);
        }
        return x;
    }

    /** Appends formulas until the list has a size; row 2 is used. */
    private static void fill(Bench x, int size) {
        x.fillFromRow(size);
        due("listSize() after filling", x.listSize(), size);
    }

    public static void main(String[] args) {
        texts();
        axioms();
        detachments();
        proofs();
        cuts();
        facts();
        proofFacts();
        longProofs();
        outputs();
        instances();
        unifications();
        rounds();
        shortestProofs();
        tables();
        valuations();
        types();
        reductions();
        rowsAlone();
        copies();
        rowsAndTexts();
        System.out.println(wrong == 0 ? "all promises are kept" : wrong + " answers are not as due");
        if (wrong != 0) {
            System.exit(1);
        }
    }

    private static void texts() {
        promise = 1;
        Bench x = new Bench();
        due("listSize()", x.listSize(), 0);
        due("outputLength()", x.outputLength(), 0);
        due("clearText()", x.clearText(), 0);
        for (int row = 0; row < 3; row++) {
            due("put(" + row + ", 0, 0)", x.put(row, 0, 0), MISSING);
        }
        promise = 2;
        due("append(32)", x.append(32), BAD);
        due("append(127)", x.append(127), BAD);
        due("append(-1)", x.append(-1), BAD);
        due("append(65536 + 65)", x.append(65536 + 65), BAD);
        due("append(MAX)", x.append(Integer.MAX_VALUE), BAD);
        due("append(33)", x.append(33), 1);
        due("append(126)", x.append(126), 2);
        for (int i = 3; i <= 80; i++) {
            due("append(65)", x.append(65), i);
        }
        due("append(65) to a full text", x.append(65), FULL);
        due("append(32) to a full text", x.append(32), BAD);
        promise = 3;
        due("clearText()", x.clearText(), 80);
        due("clearText() again", x.clearText(), 0);
        due("append(65)", x.append(65), 1);
        due("clearText()", x.clearText(), 1);
    }

    private static void axioms() {
        promise = 4;
        Bench x = with("CpCqp", "CpCqq", "z");
        due("a variant", x.axiom("CqCpq"), 0);
        due("a variant with the letters in reverse", x.axiom("CzCaa"), 1);
        due("a variable", x.axiom("a"), 2);
        due("listSize()", x.listSize(), 3);
        dueFormula(x, 0, "CaCba");
        dueFormula(x, 2, "a");
        due("no text", x.axiom(""), -100);
        due("Cp", x.axiom("Cp"), -102);
        due("CpqC", x.axiom("CpqC"), -103);
        due("pp", x.axiom("pp"), -101);
        due("Cp1q", x.axiom("Cp1q"), -102);
        due("A", x.axiom("A"), -100);
        due("80 signs C", x.axiom("C".repeat(80)), -180);
        due("39 letters", x.axiom("C".repeat(19) + "a".repeat(20)), 3);
        due("41 letters", x.axiom("C".repeat(20) + "a".repeat(21)), LARGE);
        due("41 letters and one more", x.axiom("C".repeat(20) + "a".repeat(22)), -141);
        due("12 variables", x.axiom(Checks.chain(11, "l")), 4);
        due("13 variables", x.axiom(Checks.chain(12, "m")), LARGE);
        due("26 variables, too many letters too", x.axiom(Checks.chain(25, "z")), LARGE);
        due("the text is empty after an error", x.clearText(), 0);
        due("listSize()", x.listSize(), 5);
        x = with("CpCqp");
        fill(x, 60);
        due("a new formula for a full list", x.axiom("CCabCcd"), FULL);
        due("an old formula for a full list", x.axiom("CxCyx"), 0);
        due("a formula that is too large for a full list", x.axiom(Checks.chain(12, "m")), LARGE);
        due("an error for a full list", x.axiom("C"), -101);
        due("the text is empty after FULL", x.clearText(), 0);
        due("listSize()", x.listSize(), 60);
    }

    private static void detachments() {
        promise = 5;
        Bench x = with("CpCqp", "p", "CCpCpqCpq");
        due("detach(0, 0)", x.detach(0, 0), 3);
        dueFormula(x, 3, "CaCbCcb");
        due("detach(3, 3)", x.detach(3, 3), 0);
        due("detach(1, 0) with a variable", x.detach(1, 0), NONE);
        due("detach(2, 2) with a variable in itself", x.detach(2, 2), NONE);
        for (int missing : new int[] {-1, 4, Integer.MIN_VALUE, Integer.MAX_VALUE}) {
            due("detach(" + missing + ", 0)", x.detach(missing, 0), NO_SUCH);
            due("detach(1, " + missing + ")", x.detach(1, missing), NO_SUCH);
        }
        due("listSize()", x.listSize(), 4);
        x = with("CaCaa", "C".repeat(10) + "a".repeat(11), "C".repeat(9) + "a".repeat(10), "CaCbCca", "CaCbCcCda",
            Checks.chain(9, "z"));
        due("a result of 43 letters", x.detach(0, 1), LARGE);
        due("a result of 39 letters", x.detach(0, 2), 6);
        due("formulaSize(6)", x.formulaSize(6), 39);
        due("a result of 12 variables", x.detach(3, 5), 7);
        due("variableCount(7)", x.variableCount(7), 12);
        due("a result of 13 variables", x.detach(4, 5), LARGE);
        x = with("CpCqp", "p", "CaCaa", "C".repeat(10) + "a".repeat(11));
        fill(x, 60);
        due("a new result for a full list", x.detach(0, 0), FULL);
        due("an old result for a full list", x.detach(2, 1), 4);
        due("a result that is too large for a full list", x.detach(2, 3), LARGE);
        due("no result for a full list", x.detach(1, 1), NONE);
    }

    private static void proofs() {
        promise = 6;
        Bench x = new Bench();
        due("1 without formulas", x.proof("1"), -100);
        x = with("CpCqp");
        due("1", x.proof("1"), 0);
        due("listSize()", x.listSize(), 1);
        due("2", x.proof("2"), -100);
        due("no text", x.proof(""), -100);
        due("D", x.proof("D"), -101);
        due("DD11D12, though D11 would enter 2", x.proof("DD11D12"), -106);
        due("11", x.proof("11"), -101);
        due("D1C", x.proof("D1C"), -102);
        due("the text is empty after an error", x.clearText(), 0);
        due("DD11D1D11", x.proof("DD11D1D11"), 0);
        due("listSize()", x.listSize(), 3);
        dueFormula(x, 1, "CaCbCcb");
        dueFormula(x, 2, "CaCbCcCdc");
        due("majorOf(2)", x.majorOf(2), 0);
        due("minorOf(2)", x.minorOf(2), 1);
        due("cut(1)", x.cut(1), 2);
        due("a variable", x.axiom("p"), 1);
        due("CaCaa", x.axiom("CaCaa"), 2);
        due("C..aa", x.axiom("C".repeat(10) + "a".repeat(11)), 3);
        due("D2 after a new D11", x.proof("D2D11"), NONE);
        due("listSize() after NONE", x.listSize(), 4);
        due("D34 after a new D11", x.proof("DD11D34"), LARGE);
        due("listSize() after TOO_LARGE", x.listSize(), 4);
        due("NONE before TOO_LARGE", x.proof("DD21D34"), NONE);
        due("TOO_LARGE before NONE", x.proof("DD34D21"), LARGE);
        fullProofs();
    }

    private static void fullProofs() {
        Bench x = with("CpCqp");
        fill(x, 59);
        due("two new results for one place", x.proof("D1D11"), FULL);
        due("listSize() after FULL", x.listSize(), 59);
        due("one new result for one place", x.proof("D11"), 59);
        due("old results for a full list", x.proof("DD11D11"), 0);
        due("a new result for a full list", x.proof("D1D11"), FULL);
        due("80 signs D", x.proof("D".repeat(80)), -180);
        due("the text is empty", x.clearText(), 0);
        due("listSize()", x.listSize(), 60);
        due("9", x.proof("9"), 8);
        due("0", x.proof("0"), -100);
    }

    private static void cuts() {
        promise = 7;
        Bench x = with("CpCqp", "Cpp", "p");
        due("cut(4)", x.cut(4), BAD);
        due("cut(-1)", x.cut(-1), BAD);
        due("cut(MIN)", x.cut(Integer.MIN_VALUE), BAD);
        due("cut(3)", x.cut(3), 0);
        due("cut(1)", x.cut(1), 2);
        promise = 8;
        due("listSize()", x.listSize(), 1);
        due("formulaSize(1)", x.formulaSize(1), NO_SUCH);
        due("a formula that was removed is new", x.axiom("p"), 1);
        due("listSize()", x.listSize(), 2);
        due("cut(0)", x.cut(0), 2);
        due("listSize()", x.listSize(), 0);
        due("cut(0) of nothing", x.cut(0), 0);
        due("cut(1) of nothing", x.cut(1), BAD);
        due("a new first formula", x.axiom("Cpq"), 0);
    }

    private static void facts() {
        Bench x = with("CpCqp", "CCpCqrCCpqCpr", "z");
        for (int missing : NO_FORMULAS) {
            promise = 9;
            due("formulaSize(" + missing + ")", x.formulaSize(missing), NO_SUCH);
            promise = 10;
            due("variableCount(" + missing + ")", x.variableCount(missing), NO_SUCH);
            promise = 11;
            due("majorOf(" + missing + ")", x.majorOf(missing), NO_SUCH);
            promise = 12;
            due("minorOf(" + missing + ")", x.minorOf(missing), NO_SUCH);
            promise = 13;
            due("proofDepth(" + missing + ")", x.proofDepth(missing), NO_SUCH);
            promise = 14;
            due("proofSize(" + missing + ")", x.proofSize(missing), NO_SUCH);
        }
        promise = 9;
        due("formulaSize(0)", x.formulaSize(0), 5);
        due("formulaSize(1)", x.formulaSize(1), 13);
        due("formulaSize(2)", x.formulaSize(2), 1);
        promise = 10;
        due("variableCount(0)", x.variableCount(0), 2);
        due("variableCount(1)", x.variableCount(1), 3);
        due("variableCount(2)", x.variableCount(2), 1);
        promise = 11;
        due("detach(1, 0)", x.detach(1, 0), 3);
        due("detach(3, 0)", x.detach(3, 0), 4);
        due("majorOf(0)", x.majorOf(0), NONE);
        due("majorOf(3)", x.majorOf(3), 1);
        due("majorOf(4)", x.majorOf(4), 3);
        promise = 12;
        due("minorOf(0)", x.minorOf(0), NONE);
        due("minorOf(3)", x.minorOf(3), 0);
        due("minorOf(4)", x.minorOf(4), 0);
    }

    private static void proofFacts() {
        promise = 13;
        Bench x = with("CpCqp", "CCpCqrCCpqCpr");
        due("DD211", x.proof("DD211"), 3);
        due("a derived formula as an axiom", x.axiom("Cxx"), 3);
        due("majorOf(3)", x.majorOf(3), 2);
        due("an axiom as a result", x.detach(3, 0), 0);
        due("majorOf(0)", x.majorOf(0), NONE);
        due("proofDepth(0)", x.proofDepth(0), 0);
        due("proofDepth(2)", x.proofDepth(2), 1);
        due("proofDepth(3)", x.proofDepth(3), 2);
        due("detach(0, 3)", x.detach(0, 3), 4);
        due("detach(2, 4)", x.detach(2, 4), 3);
        due("detach(0, 4)", x.detach(0, 4), 5);
        due("proofDepth(5)", x.proofDepth(5), 4);
        promise = 14;
        due("proofSize(0)", x.proofSize(0), 0);
        due("proofSize(3)", x.proofSize(3), 2);
        due("proofSize(5)", x.proofSize(5), 4);
    }

    /** Detaching a chain from whatever formula shortens it by one, so that proofs double while formulas shrink. */
    private static void longProofs() {
        promise = 14;
        String[] ends = {"Czz", "CCzzz", "CzCzz", "CCzzCzz", "CCCzzzz"};
        Bench x = new Bench();
        long size = 0;
        int last = 0;
        for (int k = 0; k < ends.length; k++) {
            int number = x.axiom(Checks.chain(11, ends[k]));
            due("a chain", number, 12 * k);
            int minor = k == 0 ? number : last;
            for (int i = 0; i < 11; i++) {
                last = x.detach(number, minor);
                due("a shorter chain", last, number + 1);
                size = i == 0 ? 1 + size : 1 + 2 * size;
                due("proofSize(" + last + ")", x.proofSize(last), size);
                promise = 13;
                due("proofDepth(" + last + ")", x.proofDepth(last), 11 * k + i + 1);
                promise = 14;
                number = last;
                minor = last;
            }
        }
        due("proofSize(59)", x.proofSize(59), (1L << 51) + (1L << 40) + (1L << 30) + (1L << 20) + (1L << 10) - 1);
        promise = 16;
        due("writeProof(59)", x.writeProof(59), LARGE);
        due("writeProof(5)", x.writeProof(5), 63);
        due("writeProof(6)", x.writeProof(6), LARGE);
        due("outputLength()", x.outputLength(), 63);
    }

    private static void outputs() {
        promise = 15;
        Bench x = with("CyCxy", Checks.chain(11, "l"), Checks.chain(11, "Caa"));
        due("writeFormula(0)", x.writeFormula(0), 5);
        dueOutput("writeFormula(0)", x, "CaCba");
        due("writeFormula(3)", x.writeFormula(3), NO_SUCH);
        due("writeFormula(-1)", x.writeFormula(-1), NO_SUCH);
        dueOutput("no formula", x, "CaCba");
        dueFormula(x, 1, Checks.chain(11, "l"));
        promise = 16;
        due("writeProof(0)", x.writeProof(0), 1);
        dueOutput("writeProof(0)", x, "1");
        due("D1D1D11", x.proof("D1D1D11"), 5);
        due("writeProof(5)", x.writeProof(5), 7);
        dueOutput("writeProof(5)", x, "D1D1D11");
        due("writeProof(6)", x.writeProof(6), NO_SUCH);
        due("writeProof(-1)", x.writeProof(-1), NO_SUCH);
        axiomsBehindTheNinth();
        proofsOfAHundredSigns();
        promise = 17;
        due("outputLength()", x.outputLength(), 7);
        promise = 18;
        due("outputAt(0)", x.outputAt(0), 'D');
        due("outputAt(6)", x.outputAt(6), '1');
        due("outputAt(7)", x.outputAt(7), NO_SUCH);
        due("outputAt(-1)", x.outputAt(-1), NO_SUCH);
        due("outputAt(MAX)", x.outputAt(Integer.MAX_VALUE), NO_SUCH);
        x.writeProof(0);
        due("outputAt(1)", x.outputAt(1), NO_SUCH);
    }

    private static void axiomsBehindTheNinth() {
        Bench x = with("Caa", "Cab", "CaCaa", "CaCab", "CaCbb", "CaCbc", "CCaaa", "CCaab", "CCabb", "CaCba");
        due("writeProof(8)", x.writeProof(8), 1);
        dueOutput("writeProof(8)", x, "9");
        due("writeProof(9)", x.writeProof(9), LARGE);
        due("detach(9, 9)", x.detach(9, 9), 10);
        due("writeProof(10)", x.writeProof(10), LARGE);
        due("detach(10, 0)", x.detach(10, 0), 9);
        due("detach(9, 0)", x.detach(9, 0), 4);
        due("detach(9, 8)", x.detach(9, 8), 11);
        due("writeProof(11)", x.writeProof(11), LARGE);
        dueOutput("after TOO_LARGE", x, "9");
    }

    private static void proofsOfAHundredSigns() {
        Bench x = with(Checks.chain(11, "Czz"), Checks.chain(11, "CCzzz"));
        int[] minors = {0, 2, 3, 4, 5};
        int major = 0;
        for (int i = 0; i < 5; i++) {
            major = x.detach(major, minors[i]);
            due("a chain with a doubled proof", major, i + 2);
        }
        due("proofSize(6)", x.proofSize(6), 31);
        due("32 signs D", x.detach(1, 6), 7);
        due("40 signs D", x.detach(7, 4), 8);
        due("48 signs D", x.detach(8, 4), 9);
        due("49 signs D", x.detach(9, 0), 10);
        due("50 signs D", x.detach(10, 0), 11);
        due("proofSize(11)", x.proofSize(11), 50);
        due("writeProof(10)", x.writeProof(10), 99);
        due("outputAt(98)", x.outputAt(98), '1');
        due("outputAt(4)", x.outputAt(4), '2');
        due("writeProof(11)", x.writeProof(11), LARGE);
        due("outputLength()", x.outputLength(), 99);
    }

    private static void instances() {
        promise = 19;
        Bench x = with("Caa", "Cab", "CCabCab", "CCabCba", "a", "CaCba", "CCaaCbCaa");
        due("Caa of Cab", x.isInstance(0, 1), 1);
        due("Cab of Caa", x.isInstance(1, 0), 0);
        due("CCabCab of Caa", x.isInstance(2, 0), 1);
        due("CCabCba of Caa", x.isInstance(3, 0), 0);
        due("CCabCba of Cab", x.isInstance(3, 1), 1);
        due("Cab of a", x.isInstance(1, 4), 1);
        due("a of Cab", x.isInstance(4, 1), 0);
        due("a of a", x.isInstance(4, 4), 1);
        due("CCaaCbCaa of CaCba", x.isInstance(6, 5), 1);
        due("Caa of CaCba", x.isInstance(0, 5), 0);
        due("isInstance(7, 0)", x.isInstance(7, 0), NO_SUCH);
        due("isInstance(0, 7)", x.isInstance(0, 7), NO_SUCH);
        due("isInstance(-1, -1)", x.isInstance(-1, -1), NO_SUCH);
        promise = 20;
        due("moreGeneral(0)", x.moreGeneral(0), 1);
        due("moreGeneral(1)", x.moreGeneral(1), 4);
        due("moreGeneral(2)", x.moreGeneral(2), 0);
        due("moreGeneral(3)", x.moreGeneral(3), 1);
        due("moreGeneral(4)", x.moreGeneral(4), NONE);
        due("moreGeneral(7)", x.moreGeneral(7), NO_SUCH);
        due("moreGeneral(-1)", x.moreGeneral(-1), NO_SUCH);
    }

    private static void unifications() {
        promise = 21;
        Bench x = with("CaCba", "CCabc", "Caa", "CaCab", "a", "CCaab",
            "CaCCaaCbCCbbCcCCccCdCCdde", "CaCbCbCcCcCdCdCee", "CaCbCcCdCeCfCgh", "CCabCCcdCCefCCghCiCjk", "CCabCCcdCCefCCghCCijk");
        due("unify(0, 1)", x.unify(0, 1), 9);
        dueOutput("unify(0, 1)", x, "CCabCcCab");
        due("unify(1, 0)", x.unify(1, 0), 9);
        dueOutput("unify(1, 0)", x, "CCabCcCab");
        due("unify(0, 0)", x.unify(0, 0), 5);
        dueOutput("unify(0, 0)", x, "CaCba");
        due("unify(2, 3)", x.unify(2, 3), NONE);
        due("unify(2, 0)", x.unify(2, 0), NONE);
        due("unify(2, 5)", x.unify(2, 5), 7);
        dueOutput("unify(2, 5)", x, "CCaaCaa");
        due("unify(4, 1)", x.unify(4, 1), 5);
        dueOutput("unify(4, 1)", x, "CCabc");
        due("unify(4, 4)", x.unify(4, 4), 1);
        dueOutput("unify(4, 4)", x, "a");
        due("sizes that double", x.unify(6, 7), LARGE);
        due("13 variables", x.unify(8, 10), LARGE);
        dueOutput("after an error", x, "a");
        due("12 variables", x.unify(8, 9), 23);
        dueOutput("12 variables", x, "CCabCCcdCCefCCghCiCjCkl");
        due("unify(11, 0)", x.unify(11, 0), NO_SUCH);
        due("unify(0, 11)", x.unify(0, 11), NO_SUCH);
        due("unify(-1, 0)", x.unify(-1, 0), NO_SUCH);
        due("listSize()", x.listSize(), 11);
    }

    private static void rounds() {
        promise = 22;
        Bench x = new Bench();
        due("round(39) of nothing", x.round(39), 0);
        x = with("CpCqp");
        due("round(0)", x.round(0), BAD);
        due("round(40)", x.round(40), BAD);
        due("round(-1)", x.round(-1), BAD);
        due("round(6)", x.round(6), 0);
        due("round(7)", x.round(7), 1);
        dueFormula(x, 1, "CaCbCcb");
        due("round(8)", x.round(8), 0);
        due("round(39)", x.round(39), 1);
        dueFormula(x, 2, "CaCbCcCdc");
        due("majorOf(2)", x.majorOf(2), 0);
        due("minorOf(2)", x.minorOf(2), 1);
        due("only formulas of the beginning", x.round(39), 1);
        dueFormula(x, 3, "CaCbCcCdCed");
        x = with("CaCbCcc", "CaCbb", "Cab");
        due("no instances of what the list has by then", x.round(39), 1);
        dueFormula(x, 3, "a");
        due("majorOf(3)", x.majorOf(3), 2);
        due("minorOf(3)", x.minorOf(3), 0);
        x = with("CaCaa", "C".repeat(10) + "a".repeat(11));
        due("a result that is too large is not entered", x.round(39), 1);
        dueFormula(x, 2, "CCaCaaCaCaa");
        x = with("CCaaa", "Cab");
        due("results of one letter", x.round(1), 1);
        dueFormula(x, 2, "a");
        fullRounds();
    }

    private static void fullRounds() {
        Bench x = with("p");
        fill(x, 59);
        due("a list with a variable, of which all are instances", x.round(39), 0);
        x = new Bench();
        x.fillWithTypes(57);
        due("a round that ends early", x.round(39), 3);
        dueFormula(x, 57, "CaCbCcCdCed");
        dueFormula(x, 58, "CaCbCcCCdCefCCdeCdf");
        due("minorOf(59)", x.minorOf(59), 29);
        due("a round that begins with 60 formulas", x.round(39), 0);
        due("round(0) for a full list", x.round(0), BAD);
    }

    private static void shortestProofs() {
        promise = 23;
        Bench x = with("CpCqp");
        due("D1D1D1D11", x.proof("D1D1D1D11"), 4);
        for (int formula = 0; formula <= 4; formula++) {
            for (int most = 0; most <= 4; most++) {
                due("shortest(" + formula + ", " + most + ")", x.shortest(formula, most), formula <= most ? formula : NONE);
            }
        }
        due("shortest(5, 9)", x.shortest(5, 9), NO_SUCH);
        due("shortest(-1, 0)", x.shortest(-1, 0), NO_SUCH);
        due("shortest(0, 5)", x.shortest(0, 5), BAD);
        due("shortest(0, -1)", x.shortest(0, -1), BAD);
        due("an axiom later", x.axiom("CaCbCcCdCed"), 3);
        due("a derived formula is no axiom", x.shortest(3, 4), 3);
        due("a shorter way by a later axiom", x.axiom("CaCbCcCdd"), 5);
        due("an instance of it", x.axiom("CCaaCbCcCdd"), 6);
        due("shortest(6, 0)", x.shortest(6, 0), 0);
        due("cut(4)", x.cut(4), 3);
        due("a later axiom that is more general", x.axiom("CaCbCcb"), 1);
        due("Cab", x.axiom("CaCbCcCdCec"), 4);
        due("shortest(3, 4)", x.shortest(3, 4), 3);
        due("a variable", x.axiom("Cab"), 5);
        due("all are instances of a variable", x.shortest(3, 4), 0);
        due("shortest(0, 0)", x.shortest(0, 0), 0);
        x = with("CpCqp", "CCpCqrCCpqCpr");
        due("DD211", x.proof("DD211"), 3);
        due("shortest(3, 4)", x.shortest(3, 4), 2);
        due("shortest(3, 1)", x.shortest(3, 1), NONE);
        due("listSize()", x.listSize(), 4);
    }

    private static void tables() {
        promise = 24;
        Bench x = new Bench();
        int[] first = {2, 2, 2, 1, 2, 2, 0, 1, 2};
        for (int i = 0; i < 9; i++) {
            due("the first value of " + i / 3 + " -> " + i % 3, x.setEntry(i / 3, i % 3, first[8 - i]), first[i]);
        }
        for (int i = 0; i < 9; i++) {
            due("the second value of " + i / 3 + " -> " + i % 3, x.setEntry(i / 3, i % 3, first[i]), first[8 - i]);
        }
        due("setEntry(-1, 0, 0)", x.setEntry(-1, 0, 0), NO_SUCH);
        due("setEntry(0, 3, 9)", x.setEntry(0, 3, 9), NO_SUCH);
        due("setEntry(0, -1, 0)", x.setEntry(0, -1, 0), NO_SUCH);
        due("setEntry(3, 0, 0)", x.setEntry(3, 0, 0), NO_SUCH);
        due("setEntry(0, 0, 3)", x.setEntry(0, 0, 3), BAD);
        due("setEntry(0, 0, -1)", x.setEntry(0, 0, -1), BAD);
        due("setEntry(0, 0, 2) after errors", x.setEntry(0, 0, 2), 2);
        promise = 25;
        due("setDesignated(8)", x.setDesignated(8), BAD);
        due("setDesignated(-1)", x.setDesignated(-1), BAD);
        due("setDesignated(7)", x.setDesignated(7), 4);
        due("setDesignated(0)", x.setDesignated(0), 7);
        promise = 26;
        due("isNormal() without designated values", x.isNormal(), 1);
        due("setDesignated(4)", x.setDesignated(4), 0);
        due("isNormal()", x.isNormal(), 1);
        due("setDesignated(6)", x.setDesignated(6), 4);
        due("isNormal() with 1 -> 0 designated", x.isNormal(), 0);
        due("setEntry(1, 0, 0)", x.setEntry(1, 0, 0), 1);
        due("isNormal() with 1 -> 0 not designated", x.isNormal(), 1);
        due("setDesignated(4)", x.setDesignated(4), 6);
        due("setEntry(2, 1, 2)", x.setEntry(2, 1, 2), 1);
        due("isNormal() with 2 -> 1 designated", x.isNormal(), 0);
        due("setDesignated(7)", x.setDesignated(7), 4);
        due("isNormal() with all designated", x.isNormal(), 1);
        due("setDesignated(1)", x.setDesignated(1), 7);
        due("isNormal() with 0 designated", x.isNormal(), 1);
        due("setEntry(0, 2, 0)", x.setEntry(0, 2, 0), 2);
        due("isNormal() with 0 -> 2 designated", x.isNormal(), 0);
    }

    private static void valuations() {
        Bench x = with("CpCqp", "CCpCpqCpq", "p", Checks.chain(7, "z"), Checks.chain(8, "z"), "CCCpqpp", Checks.chain(7, "Cza"));
        promise = 27;
        int[] valid = {1, 0, 0, 0, LARGE, 0, 1};
        for (int i = 0; i < valid.length; i++) {
            due("isValid(" + i + ")", x.isValid(i), valid[i]);
        }
        due("isValid(7)", x.isValid(7), NO_SUCH);
        due("isValid(-1)", x.isValid(-1), NO_SUCH);
        promise = 28;
        due("refutation(0, 0)", x.refutation(0, 0), NONE);
        due("refutation(1, 0)", x.refutation(1, 0), 1);
        due("refutation(1, 1)", x.refutation(1, 1), 0);
        due("refutation(2, 0)", x.refutation(2, 0), 0);
        due("refutation(3, 0)", x.refutation(3, 0), 1);
        due("refutation(3, 1)", x.refutation(3, 1), 2);
        due("refutation(3, 6)", x.refutation(3, 6), 2);
        due("refutation(3, 7)", x.refutation(3, 7), 0);
        due("refutation(3, 8)", x.refutation(3, 8), NO_SUCH);
        due("refutation(3, -1)", x.refutation(3, -1), NO_SUCH);
        due("refutation(4, 8)", x.refutation(4, 8), LARGE);
        due("refutation(4, 9)", x.refutation(4, 9), NO_SUCH);
        due("refutation(7, 0)", x.refutation(7, 0), NO_SUCH);
        due("refutation(-1, 0)", x.refutation(-1, 0), NO_SUCH);
        due("refutation(5, 0)", x.refutation(5, 0), 1);
        due("refutation(5, 1)", x.refutation(5, 1), 0);
        promise = 29;
        due("countValuations(0, 2)", x.countValuations(0, 2), 9);
        due("countValuations(0, 0)", x.countValuations(0, 0), 0);
        due("countValuations(1, 2)", x.countValuations(1, 2), 8);
        due("countValuations(1, 1)", x.countValuations(1, 1), 1);
        due("countValuations(2, 1)", x.countValuations(2, 1), 1);
        due("countValuations(6, 2)", x.countValuations(6, 2), 6561);
        due("countValuations(3, 0)", x.countValuations(3, 0), 1);
        due("countValuations(4, 0)", x.countValuations(4, 0), LARGE);
        due("countValuations(4, 3)", x.countValuations(4, 3), NO_SUCH);
        due("countValuations(0, -1)", x.countValuations(0, -1), NO_SUCH);
        due("countValuations(7, 0)", x.countValuations(7, 0), NO_SUCH);
        promise = 27;
        due("setDesignated(0)", x.setDesignated(0), 4);
        due("isValid(0) without designated values", x.isValid(0), 0);
        due("setDesignated(7)", x.setDesignated(7), 0);
        due("isValid(2) with all designated", x.isValid(2), 1);
        due("setDesignated(6)", x.setDesignated(6), 7);
        due("isValid(1) with 1 and 2 designated", x.isValid(1), 1);
    }

    private static void types() {
        promise = 30;
        Bench x = new Bench();
        String letters = "IKSBCW";
        String[] types = {"Caa", "CaCba", "CCaCbcCCabCac", "CCabCCcaCcb", "CCaCbcCbCac", "CCaCabCab"};
        for (int i = 0; i < 6; i++) {
            due("addType() of " + letters.charAt(i), x.termType(letters.substring(i, i + 1)), i);
            dueFormula(x, i, types[i]);
            due("majorOf(" + i + ")", x.majorOf(i), NONE);
        }
        due("SKK", x.termType("SKK"), 0);
        due("KI", x.termType("KI"), 6);
        dueFormula(x, 6, "CaCbb");
        due("majorOf(6)", x.majorOf(6), NONE);
        due("((S)((K)))(K)", x.termType("((S)((K)))(K)"), 0);
        due("SII", x.termType("SII"), NONE);
        due("S(S(SS))", x.termType("S(S(SS))"), LARGE);
        due("TOO_LARGE before NONE", x.termType("K(S(S(SS)))(SII)"), LARGE);
        due("NONE before TOO_LARGE", x.termType("K(SII)(S(S(SS)))"), NONE);
        due("the text is empty after an error", x.clearText(), 0);
        due("no text", x.termType(""), -100);
        due("SIIa", x.termType("SIIa"), -103);
        due("S)", x.termType("S)"), -101);
        due("S(", x.termType("S("), -102);
        due("S(K", x.termType("S(K"), -103);
        due("S()K", x.termType("S()K"), -102);
        due("8 open", x.termType("((((((((I))))))))"), 0);
        due("8 open twice", x.termType("((((((((I))))))))((((((((I))))))))"), 0);
        due("9 open", x.termType("(((((((((I)))))))))"), -108);
        due("9 open later", x.termType("I(I(I(I(I(I(I(I(I(I"), -117);
        due("8 levels", x.termType("I(I(I(I(I(I(I(I(II))))))))"), 0);
        due("80 letters", x.termType("I".repeat(80)), 0);
        due("listSize()", x.listSize(), 7);
        x = new Bench();
        x.fillWithTypes(60);
        due("a new type for a full list", x.termType("SK"), FULL);
        due("an old type for a full list", x.termType("KI"), 11);
        due("no type for a full list", x.termType("SII"), NONE);
        due("the text is empty after FULL", x.clearText(), 0);
    }

    private static void reductions() {
        promise = 31;
        Bench x = new Bench();
        String[][] steps = {{"IS", "S"}, {"KSI", "S"}, {"SKBW", "KW(BW)"}, {"BSKI", "S(KI)"}, {"CSKI", "SIK"}, {"WSK", "SKK"},
            {"S(II)", "SI"}, {"K(II)(II)", "II"}, {"S(KII)(II)", "SI(II)"}, {"IISI", "ISI"}, {"B(KI)(SK)(WI)S", "KI(SK(WI))S"},
            {"S(K(S))(((I)))", null}};
        for (String[] step : steps) {
            boolean reduces = step[1] != null;
            due(step[0] + " in one step", x.reduced(step[0], 1), reduces ? 1 : 0);
            dueOutput(step[0] + " in one step", x, reduces ? step[1] : "S(KS)I");
        }
        due("no step", x.reduced("((I)((I)(S)))", 0), 0);
        dueOutput("no step", x, "I(IS)");
        due("WWW", x.reduced("WWW", 50), 50);
        dueOutput("WWW", x, "WWW");
        due("the end", x.reduced("S(KS)KBCI", 50), 4);
        dueOutput("the end", x, "B(CI)");
        limitsOfReduction();
        depthsOfReduction();
        x = new Bench();
        due("no text", x.reduced("", 1), -100);
        due("SKa", x.reduced("SKa", 1), -102);
        due("(S", x.reduced("(S", 1), -102);
        due("9 open", x.reduced("K(((((((((I)))))))))", 1), -109);
        due("the text is empty after an error", x.clearText(), 0);
        due("steps -1", x.reduced("SK", -1), BAD);
        due("the text is empty after BAD_VALUE", x.clearText(), 0);
        due("steps 51", x.reduced("a", 51), BAD);
        due("the text is empty after BAD_VALUE", x.clearText(), 0);
    }

    private static void limitsOfReduction() {
        Bench x = new Bench();
        due("80 letters, no step", x.reduced("K".repeat(80), 0), 0);
        due("outputLength()", x.outputLength(), 80);
        due("a step to 40 letters", x.reduced("I" + "S".repeat(40), 1), 1);
        dueOutput("a step to 40 letters", x, "S".repeat(40));
        due("a step to 41 letters", x.reduced("I" + "S".repeat(41), 1), LARGE);
        dueOutput("after TOO_LARGE", x, "S".repeat(40));
        due("the text is empty after TOO_LARGE", x.clearText(), 0);
        String fifty = "(" + "S".repeat(50) + ")";
        due("a step from 52 letters to 1", x.reduced("KI" + fifty, 50), 1);
        dueOutput("a step from 52 letters to 1", x, "I");
    }

    private static void depthsOfReduction() {
        Bench x = new Bench();
        String seven = "S(SSS)(SSS)";
        String fifteen = "S(" + seven + ")(" + seven + ")";
        String fortyOne = "S(S(" + fifteen + ")(" + fifteen + "))(S(SSS)(SS(SSS)))";
        due("41 letters of which none reduces", x.reduced(fortyOne, 50), 0);
        dueOutput("41 letters of which none reduces", x, fortyOne);
        String deep = "BS(".repeat(8) + "S" + ")".repeat(8);
        due("more than 8 open in the output", x.reduced(deep + "I", 50), 8);
        dueOutput("more than 8 open in the output", x, "S(".repeat(8) + "SI" + ")".repeat(8));
        due("twice as deep", x.reduced("WB(" + deep.substring(3, deep.length() - 1) + ")I", 50), 16);
        dueOutput("twice as deep", x, "S(".repeat(15) + "SI" + ")".repeat(15));
    }

    private static void rowsAlone() {
        promise = 32;
        Bench x = new Bench();
        due("allocate(3, 9, 99)", x.allocate(3, 9, 99), NO_SUCH);
        due("allocate(-1, 0, 1)", x.allocate(-1, 0, 1), NO_SUCH);
        due("allocate(0, 3, -1)", x.allocate(0, 3, -1), BAD);
        due("allocate(0, -1, 1)", x.allocate(0, -1, 1), BAD);
        due("allocate(0, 0, 81)", x.allocate(0, 0, 81), BAD);
        due("allocate(0, 0, -1)", x.allocate(0, 0, -1), NEGATIVE);
        due("allocate(0, 0, MIN)", x.allocate(0, 0, Integer.MIN_VALUE), NEGATIVE);
        due("put(0, 0, 1)", x.put(0, 0, 1), MISSING);
        due("allocate(0, 0, 80)", x.allocate(0, 0, 80), 80);
        due("allocate(1, 1, 2)", x.allocate(1, 1, 2), 2);
        due("allocate(2, 2, 0)", x.allocate(2, 2, 0), 0);
        promise = 33;
        due("put(3, 0, 0)", x.put(3, 0, 0), NO_SUCH);
        due("put(-1, 0, 0)", x.put(-1, 0, 0), NO_SUCH);
        due("put(2, 0, 0)", x.put(2, 0, 0), BOUNDS);
        due("put(0, 80, 0)", x.put(0, 80, 0), BOUNDS);
        due("put(0, -1, 0)", x.put(0, -1, 0), BOUNDS);
        due("put(0, MAX, 0)", x.put(0, Integer.MAX_VALUE, 0), BOUNDS);
        due("put(0, 79, 200)", x.put(0, 79, 200), 1);
        due("put(1, 1, -1)", x.put(1, 1, -1), 1);
        promise = 34;
        due("rowElement(0, 79)", x.rowElement(0, 79), -56);
        due("rowElement(0, 78)", x.rowElement(0, 78), 0);
        due("rowElement(1, 1)", x.rowElement(1, 1), 65535);
        due("rowElement(1, 2)", x.rowElement(1, 2), Long.MIN_VALUE);
        due("rowElement(1, -1)", x.rowElement(1, -1), Long.MIN_VALUE);
        due("rowElement(3, 0)", x.rowElement(3, 0), Long.MIN_VALUE);
        due("rowElement(-1, 0)", x.rowElement(-1, 0), Long.MIN_VALUE);
        due("rowElement of a missing row", new Bench().rowElement(0, 0), Long.MIN_VALUE);
        promise = 32;
        due("an error leaves the row", x.allocate(1, 1, 81), BAD);
        due("rowElement(1, 1)", x.rowElement(1, 1), 65535);
        due("a new row", x.allocate(1, 2, 3), 3);
        due("rowElement(1, 1)", x.rowElement(1, 1), 0);
        promise = 33;
        due("put(1, 1, MIN)", x.put(1, 1, Integer.MIN_VALUE), 1);
        due("rowElement(1, 1)", x.rowElement(1, 1), Integer.MIN_VALUE);
    }

    private static void copies() {
        promise = 35;
        Bench x = new Bench();
        due("no row", x.copyElements(0, 0, 3, 0, 0), NO_SUCH);
        due("no row", x.copyElements(-1, 0, 0, 0, 0), NO_SUCH);
        x.allocate(0, 2, 5);
        due("a missing row", x.copyElements(0, 0, 1, 0, 1), MISSING);
        due("a missing row", x.copyElements(1, 0, 0, 0, 1), MISSING);
        x.allocate(1, 1, 4);
        due("another type", x.copyElements(0, -1, 1, 0, 1), TYPE);
        x.allocate(1, 2, 4);
        for (int i = 0; i < 5; i++) {
            x.put(0, i, 10 * i + 100000);
        }
        int[][] outside = {{-1, 0, 1}, {0, -1, 1}, {0, 0, -1}, {0, 0, 5}, {1, 0, 5}, {5, 0, 1}, {6, 0, 0}, {0, 5, 0},
            {1, 0, Integer.MAX_VALUE}, {Integer.MAX_VALUE, 0, 1}, {Integer.MAX_VALUE, Integer.MAX_VALUE, Integer.MAX_VALUE}};
        for (int[] o : outside) {
            due("copyElements(0, " + o[0] + ", 1, " + o[1] + ", " + o[2] + ")", x.copyElements(0, o[0], 1, o[1], o[2]), BOUNDS);
        }
        due("rowElement(1, 0)", x.rowElement(1, 0), 0);
        due("nothing at the ends", x.copyElements(0, 5, 1, 4, 0), 0);
        due("copyElements(0, 2, 1, 1, 3)", x.copyElements(0, 2, 1, 1, 3), 3);
        for (int i = 0; i < 4; i++) {
            due("rowElement(1, " + i + ")", x.rowElement(1, i), i == 0 ? 0 : 100010 + 10 * i);
        }
        due("overlapping forward", x.copyElements(0, 0, 0, 1, 4), 4);
        for (int i = 0; i < 5; i++) {
            due("rowElement(0, " + i + ")", x.rowElement(0, i), 100000 + 10 * Math.max(0, i - 1));
        }
        due("overlapping backward", x.copyElements(0, 2, 0, 1, 3), 3);
        int[] after = {0, 10, 20, 30, 30};
        for (int i = 0; i < 5; i++) {
            due("rowElement(0, " + i + ")", x.rowElement(0, i), 100000 + after[i]);
        }
    }

    private static void rowsAndTexts() {
        promise = 36;
        Bench x = with("CpCqp");
        due("storeOutput(3, 0)", x.storeOutput(3, 0), NO_SUCH);
        due("storeOutput(-1, 0)", x.storeOutput(-1, 0), NO_SUCH);
        due("storeOutput(0, 0)", x.storeOutput(0, 0), MISSING);
        x.allocate(0, 0, 8);
        due("an empty output at the end", x.storeOutput(0, 8), 0);
        due("an empty output behind the end", x.storeOutput(0, 9), BOUNDS);
        due("an empty output before the row", x.storeOutput(0, -1), BOUNDS);
        x.writeFormula(0);
        due("storeOutput(0, 4)", x.storeOutput(0, 4), BOUNDS);
        due("nothing is set", x.rowElement(0, 4), 0);
        due("storeOutput(0, MAX)", x.storeOutput(0, Integer.MAX_VALUE), BOUNDS);
        due("storeOutput(0, 3)", x.storeOutput(0, 3), 5);
        String stored = "\0\0\0CaCba";
        for (int i = 0; i < 8; i++) {
            due("rowElement(0, " + i + ")", x.rowElement(0, i), stored.charAt(i));
        }
        promise = 37;
        due("loadText(3, 0, 0)", x.loadText(3, 0, 0), NO_SUCH);
        due("loadText(-1, 0, 0)", x.loadText(-1, 0, 0), NO_SUCH);
        due("loadText(1, 0, 0)", x.loadText(1, 0, 0), MISSING);
        due("loadText(0, -1, 1)", x.loadText(0, -1, 1), BOUNDS);
        due("loadText(0, 0, -1)", x.loadText(0, 0, -1), BOUNDS);
        due("loadText(0, 4, 5)", x.loadText(0, 4, 5), BOUNDS);
        due("loadText(0, 9, 0)", x.loadText(0, 9, 0), BOUNDS);
        due("loadText(0, 1, MAX)", x.loadText(0, 1, Integer.MAX_VALUE), BOUNDS);
        due("clearText()", x.clearText(), 0);
        due("loadText(0, 8, 0)", x.loadText(0, 8, 0), 0);
        due("loadText(0, 0, 8)", x.loadText(0, 0, 8), 0);
        due("loadText(0, 3, 5)", x.loadText(0, 3, 5), 5);
        due("addAxiom()", x.addAxiom(), 0);
        x.put(0, 5, 32);
        due("up to a bad character", x.loadText(0, 3, 5), 2);
        due("what came before stays", x.append('a'), 3);
        due("addAxiom()", x.addAxiom(), 1);
        loadsIntoFullTexts();
    }

    private static void loadsIntoFullTexts() {
        Bench x = new Bench();
        x.allocate(2, 2, 80);
        for (int i = 0; i < 80; i++) {
            x.put(2, i, 'a');
        }
        x.append('b');
        due("up to a full text", x.loadText(2, 0, 80), 79);
        due("a full text", x.loadText(2, 0, 80), 0);
        due("clearText()", x.clearText(), 80);
        due("80 characters", x.loadText(2, 0, 80), 80);
        due("clearText()", x.clearText(), 80);
        x.put(2, 1, 65536 + 'a');
        due("an element that is no character", x.loadText(2, 0, 80), 1);
        x.put(2, 0, -1);
        due("a negative element", x.loadText(2, 0, 1), 0);
        due("clearText()", x.clearText(), 1);
    }
}
