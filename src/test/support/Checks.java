import java.lang.reflect.InvocationTargetException;
import java.lang.reflect.Method;
import java.lang.reflect.Modifier;
import java.util.Map;
import java.util.TreeMap;

/** Runs the tests of a class, each a method that is named after its promise and its case, as in promise02_code32IsBadValue. */
final class Checks {
    static final int NO_SUCH = -1;
    static final int BAD = -2;
    static final int FULL = -3;
    static final int NONE = -4;
    static final int LARGE = -5;
    static final int MISSING = -6;
    static final int TYPE = -7;
    static final int BOUNDS = -8;
    static final int NEGATIVE = -9;
    static final int MIN = Integer.MIN_VALUE;
    static final int MAX = Integer.MAX_VALUE;

    private static String test = "";
    private static int wrong = 0;

    private Checks() {
    }

    interface Recipe {
        void on(Bench bench);
    }

    interface Call {
        long on(Bench bench);
    }

    static void run(Class<?> tests) {
        Map<String, Method> byName = new TreeMap<>();
        for (Method method : tests.getDeclaredMethods()) {
            if (method.getName().indexOf('_') > 0 && !Modifier.isPrivate(method.getModifiers())) {
                byName.put(method.getName(), method);
            }
        }
        for (Map.Entry<String, Method> entry : byName.entrySet()) {
            test = entry.getKey();
            runOne(entry.getValue());
        }
        System.out.println(wrong == 0 ? "all " + byName.size() + " cases are as due" : wrong + " answers are not as due");
        if (wrong != 0 || byName.isEmpty()) {
            System.exit(1);
        }
    }

    private static void runOne(Method method) {
        try {
            method.setAccessible(true);
            method.invoke(null);
        } catch (InvocationTargetException | IllegalAccessException fault) {
            report("ended by " + fault.getCause());
        }
    }

    private static void report(String what) {
        wrong++;
        System.out.println(test + ", line " + line() + ": " + what);
    }

    /** The line of the test that asked. */
    private static int line() {
        for (StackTraceElement element : new Throwable().getStackTrace()) {
            if (!element.getClassName().equals(Checks.class.getName()) && !element.getClassName().startsWith("java.")) {
                return element.getLineNumber();
            }
        }
        return 0;
    }

    static void due(long got, long want) {
        if (got != want) {
            report("answered " + got + ", due is " + want);
        }
    }

    static void due(String got, String want) {
        if (!got.equals(want)) {
            report("found " + got + ", due is " + want);
        }
    }

    // ---- what stands ----

    /** The call gets the answer and leaves everything as it was. */
    static void leavesAll(Recipe before, Call call, long want) {
        due(call.on(made(before)), want);
        same(before, x -> {
            before.on(x);
            call.on(x);
        });
    }

    /** The call gets the answer, empties the text buffer and leaves everything else as it was. */
    static void emptiesTextOnly(Recipe before, Call call, long want) {
        due(call.on(made(before)), want);
        same(x -> {
            before.on(x);
            x.clearText();
        }, x -> {
            before.on(x);
            call.on(x);
        });
    }

    /** Both recipes lead to workbenches that answer alike. Each question has its own pair, since some questions change much. */
    static void same(Recipe first, Recipe second) {
        int size = made(first).listSize();
        due(made(second).listSize(), size);
        for (int question = 0; question < QUESTIONS + size; question++) {
            due(answer(made(second), question), answer(made(first), question));
        }
    }

    private static Bench made(Recipe recipe) {
        Bench bench = new Bench();
        recipe.on(bench);
        return bench;
    }

    private static final int QUESTIONS = 8;

    private static String answer(Bench x, int question) {
        switch (question) {
            case 0:
                return "output " + x.output();
            case 1:
            case 2:
            case 3:
                return "row " + (question - 1) + ": " + x.elements(question - 1) + kindOf(x, question - 1);
            case 4:
                return matrix(x);
            case 5:
                return "text as a formula " + x.addAxiom() + " " + x.formula(0) + " " + x.listSize();
            case 6:
                return "text as a proof " + x.prove() + " " + x.listSize();
            case 7:
                return "text as a term " + x.reduceTerm(0) + " " + x.output() + " " + x.clearText();
            default:
                return facts(x, question - QUESTIONS);
        }
    }

    /** A missing row, an empty one and the three types take this value each in another way. */
    private static String kindOf(Bench x, int row) {
        return "takes " + x.put(row, 0, 0x12345678) + " as " + x.rowElement(row, 0);
    }

    private static String matrix(Bench x) {
        StringBuilder table = new StringBuilder("matrix");
        for (int i = 0; i < 9; i++) {
            table.append(' ').append(x.setEntry(i / 3, i % 3, 0));
        }
        return table.append(", designated ").append(x.setDesignated(0)).toString();
    }

    private static String facts(Bench x, int formula) {
        return "formula " + formula + ": " + x.formula(formula) + " " + x.formulaSize(formula) + " " + x.variableCount(formula)
            + " from " + x.majorOf(formula) + " and " + x.minorOf(formula) + ", depth " + x.proofDepth(formula) + ", signs "
            + x.proofSize(formula);
    }

    // ---- recipes that many tests use ----

    /** Nothing is as at first: formulas 0 and 1 are axioms, 2 and 3 derived, 3 is Caa; row 2 alone is missing. */
    static void busy(Bench x) {
        x.axiom("CaCba");
        x.axiom("CCaCbcCCabCac");
        x.proof("DD211");
        busyBeside(x);
    }

    /** The list has 60 formulas, of which 0 to 5 are the types of K, S, B, C, W and I, and everything else is as in busy. */
    static void full(Bench x) {
        x.fillWithTypes(60);
        busyBeside(x);
    }

    private static void busyBeside(Bench x) {
        x.setEntry(1, 0, 0);
        x.setDesignated(6);
        x.allocate(0, 0, 5);
        x.put(0, 1, -7);
        x.put(0, 4, 'a');
        x.allocate(1, 1, 3);
        x.put(1, 0, 65535);
        x.put(1, 2, 'C');
        x.writeProof(2);
        x.type("S(KI)W");
    }

    // ---- formulas ----

    /** The left-branching formula C..Caa..a with an odd size. */
    static String leftFormula(int size) {
        return "C".repeat(size / 2) + "a".repeat(size / 2 + 1);
    }

    /** Implications with new variables a, b, c and so on before a last formula. */
    static String chain(int length, String last) {
        StringBuilder text = new StringBuilder();
        for (int i = 0; i < length; i++) {
            text.append('C').append((char) ('a' + i));
        }
        return text.append(last).toString();
    }
}
