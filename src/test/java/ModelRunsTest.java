import java.util.ArrayList;
import java.util.HashMap;
import java.util.LinkedHashSet;
import java.util.List;
import java.util.Map;
import java.util.Random;
import java.util.Set;

/**
 * Runs of 512 chosen calls, with the same seeds every time, each call answered by the class and by a slow model that is
 * written in another way: trees and recursion, substitutions in maps, real Java arrays for rows.
 */
public final class ModelRunsTest {
    private static final int RUNS = 10000;
    private static final String[] AXIOMS = {
        "CpCqp", "CCpCqrCCpqCpr", "CCpqCCqrCpr", "CCqrCCpqCpr", "CpCCpqq", "CCpCqrCqCpr", "CCpCpqCpq", "CCCpqpp", "Cpp",
        "CCCpqrCCrpCsp", "CCCCpqrsCCqsCps", "p", "CCppq", "CpCqCrs", "CCpqr", "CaCbCcCdCeCfCgCha", "CaCbCcCdCeCfCgChi",
        "CaCbCcCdCeCfCgChCiCjCkl", "CCaaCCbbCCccCCddCCeeff", "CCabCCbcCCcdCCdeCea", "CCabCCCabcc", "CCaCbcCdCef",
        "CCxyCCyzCzCzw", "CCpCppCCqCqqCrr", "CaCCaaCCCaaaCCCCaaaab", "CaCbCCCaabCCCabba"};
    private static final String[] TERMS = {
        "SKK", "SII", "SKKI", "SII(SII)", "WWW", "BWB", "S(KS)K", "S(K(SI))K", "WI(WI)", "CIKS", "B(BW)C", "SSS(SS)SS",
        "S(S(KS)(S(KK)K))(KI)", "WS(BW)BC", "((S)((K)))", "K(I(I))(SI)", "BBB", "CBC", "S(BBS)(KK)", "BW(BBW)",
        "C(K(II))SW", "S(CI)(CI)W", "((((((((S))))))))", "WWWWWWWW", "B(B(B(B(BW))))"};

    private static int wrong = 0;

    private Bench tested;
    private Model model;
    private String comparedOutput = "";
    private Random random;
    private StringBuilder trace;
    private boolean asking;
    private int run;

    public static void main(String[] args) {
        int runs = args.length > 0 ? Integer.parseInt(args[0]) : RUNS;
        int first = args.length > 1 ? Integer.parseInt(args[1]) : 1;
        for (int run = first; run < first + runs && wrong < 5; run++) {
            new ModelRunsTest().go(run);
        }
        System.out.println(wrong == 0 ? "all answers are those of the model" : wrong + " answers are not those of the model");
        if (wrong != 0) {
            System.exit(1);
        }
    }

    private void go(int number) {
        run = number;
        random = new Random(number * 7919L);
        tested = new Bench();
        model = new Model();
        trace = new StringBuilder();
        int before = wrong;
        int flavour = pick(6);
        try {
            prepare(flavour);
            while (wrong == before) {
                step(flavour);
            }
        } catch (Bench.NoCallsLeft end) {
            trace.setLength(0);
        }
    }

    /** Most runs begin with some axioms and rows; some begin with a list that is nearly full. */
    private void prepare(int flavour) {
        for (int i = pick(6); i > 0; i--) {
            type(formulaText());
            due("addAxiom()", tested.addAxiom(), model.addAxiom());
        }
        int type = pick(3);
        for (int row = 0; row < 3 && pick(6) > 0; row++) {
            type = pick(3) == 0 ? pick(3) : type;
            due("allocate(" + row + ", " + type + ", 80)", tested.allocate(row, type, 80), model.allocate(row, type, 80));
        }
        if (flavour == 5) {
            fillWithTypes(54 + pick(7));
        }
        compareState();
    }

    private void fillWithTypes(int size) {
        for (char letter : "KSBCWI".toCharArray()) {
            type("" + letter);
            due("addType()", tested.addType(), model.addType());
        }
        for (int i = 0; i < 3 && model.formulas.size() < size; i++) {
            due("round(39)", tested.round(39), model.round(39));
        }
        due("cut(" + size + ")", tested.cut(size), model.cut(size));
    }

    private void due(String call, long got, long want) {
        if (!asking) {
            trace.append(call).append(" -> ").append(want).append('\n');
        }
        if (got != want) {
            wrong++;
            System.out.println("run " + run + ": " + call + " answered " + got + ", due is " + want + ", after\n" + trace);
        }
    }

    private int pick(int bound) {
        return random.nextInt(bound);
    }

    private int odd() {
        int[] values = {-1, -2, 0, 1, 60, 61, 79, 80, 81, 39, 40, 120, Integer.MAX_VALUE, Integer.MIN_VALUE, -100, 65536 + 67};
        return values[pick(values.length)];
    }

    /** A number of a formula, seldom one that does not exist. */
    private int formula() {
        int size = model.formulas.size();
        if (size == 0 || pick(40) == 0) {
            return odd();
        }
        return pick(8) == 0 ? size : pick(3) == 0 ? size - 1 - pick(Math.min(size, 4)) : pick(size);
    }

    private int row() {
        return pick(25) == 0 ? odd() : pick(3);
    }

    private int index() {
        return pick(12) == 0 ? odd() : pick(4) == 0 ? pick(90) : pick(12);
    }

    private void step(int flavour) {
        int kind = pick(100);
        if (kind < 14) {
            type(formulaText());
            due("addAxiom()", tested.addAxiom(), model.addAxiom());
        } else if (kind < 20) {
            type(termText());
            due("addType()", tested.addType(), model.addType());
        } else if (kind < 28) {
            type(termText());
            int steps = pick(15) == 0 ? odd() : pick(3) == 0 ? pick(51) : pick(6);
            due("reduceTerm(" + steps + ")", tested.reduceTerm(steps), model.reduceTerm(steps));
        } else if (kind < 38) {
            int major = formula();
            int minor = formula();
            due("detach(" + major + ", " + minor + ")", tested.detach(major, minor), model.detach(major, minor));
        } else if (kind < 46) {
            type(proofText());
            due("prove()", tested.prove(), model.prove());
        } else if (kind < 52) {
            int first = formula();
            int second = formula();
            due("unify(" + first + ", " + second + ")", tested.unify(first, second), model.unify(first, second));
        } else if (kind < 66) {
            compareOne(kind);
        } else if (kind < 74) {
            derive(flavour);
        } else if (kind < 84) {
            useMatrix();
        } else {
            useRows();
        }
        compareState();
    }

    private void compareOne(int kind) {
        int formula = formula();
        int other = formula();
        if (kind < 55) {
            due("isInstance(" + formula + ", " + other + ")", tested.isInstance(formula, other), model.isInstance(formula, other));
        } else if (kind < 58) {
            due("moreGeneral(" + formula + ")", tested.moreGeneral(formula), model.moreGeneral(formula));
        } else if (kind < 61) {
            due("writeProof(" + formula + ")", tested.writeProof(formula), model.writeProof(formula));
        } else if (kind < 63) {
            due("writeFormula(" + formula + ")", tested.writeFormula(formula), model.writeFormula(formula));
        } else if (kind < 65) {
            int count = pick(3) == 0 ? odd() : model.formulas.size() - pick(5);
            due("cut(" + count + ")", tested.cut(count), model.cut(count));
        } else {
            due("clearText()", tested.clearText(), model.clearText());
        }
    }

    private void derive(int flavour) {
        if (pick(3) == 0 && (flavour < 3 || pick(10) == 0)) {
            int limit = pick(10) == 0 ? odd() : pick(3) == 0 ? 1 + pick(39) : 3 + pick(9);
            due("round(" + limit + ")", tested.round(limit), model.round(limit));
        } else if (pick(2) == 0) {
            int formula = formula();
            int most = pick(10) == 0 ? odd() : pick(5);
            due("shortest(" + formula + ", " + most + ")", tested.shortest(formula, most), model.shortest(formula, most));
        }
    }

    private void useMatrix() {
        int formula = formula();
        int value = pick(12) == 0 ? odd() : pick(3);
        switch (pick(6)) {
            case 0:
                int x = pick(12) == 0 ? odd() : pick(3);
                int y = pick(12) == 0 ? odd() : pick(3);
                due("setEntry(" + x + ", " + y + ", " + value + ")", tested.setEntry(x, y, value), model.setEntry(x, y, value));
                break;
            case 1:
                int values = pick(8) == 0 ? odd() : pick(9);
                due("setDesignated(" + values + ")", tested.setDesignated(values), model.setDesignated(values));
                break;
            case 2:
                due("isNormal()", tested.isNormal(), model.isNormal());
                break;
            case 3:
                due("isValid(" + formula + ")", tested.isValid(formula), model.isValid(formula));
                break;
            case 4:
                int variable = pick(12) == 0 ? odd() : pick(6);
                due("refutation(" + formula + ", " + variable + ")", tested.refutation(formula, variable),
                    model.refutation(formula, variable));
                break;
            default:
                due("countValuations(" + formula + ", " + value + ")", tested.countValuations(formula, value),
                    model.countValuations(formula, value));
                break;
        }
    }

    private void useRows() {
        int row = row();
        int index = index();
        int count = index();
        switch (pick(8)) {
            case 0:
            case 1:
                int type = pick(12) == 0 ? odd() : pick(3);
                int length = pick(5) == 0 ? odd() : pick(81);
                due("allocate(" + row + ", " + type + ", " + length + ")", tested.allocate(row, type, length),
                    model.allocate(row, type, length));
                break;
            case 2:
                int value = pick(3) == 0 ? random.nextInt() : 30 + pick(100);
                due("put(" + row + ", " + index + ", " + value + ")", tested.put(row, index, value), model.put(row, index, value));
                break;
            case 3:
                due("rowElement(" + row + ", " + index + ")", tested.rowElement(row, index), model.rowElement(row, index));
                break;
            case 4:
                int to = row();
                int second = index();
                due("copyElements(" + row + ", " + index + ", " + to + ", " + second + ", " + count + ")",
                    tested.copyElements(row, index, to, second, count), model.copyElements(row, index, to, second, count));
                break;
            case 5:
            case 6:
                due("storeOutput(" + row + ", " + index + ")", tested.storeOutput(row, index), model.storeOutput(row, index));
                break;
            default:
                due("loadText(" + row + ", " + index + ", " + count + ")", tested.loadText(row, index, count),
                    model.loadText(row, index, count));
                break;
        }
    }

    /** What can be asked without changing anything; the output in full only if it is another one than before. */
    private void compareState() {
        asking = true;
        due("listSize()", tested.listSize(), model.formulas.size());
        due("outputLength()", tested.outputLength(), model.output.length());
        if (!comparedOutput.equals(model.output)) {
            comparedOutput = model.output;
            for (int i = -1; i <= model.output.length(); i++) {
                long want = i >= 0 && i < model.output.length() ? model.output.charAt(i) : -1;
                due("outputAt(" + i + ")", tested.outputAt(i), want);
            }
        }
        askOne();
        askOne();
        int row = pick(3);
        int index = pick(80);
        due("rowElement(" + row + ", " + index + ")", tested.rowElement(row, index), model.rowElement(row, index));
        asking = false;
    }

    private void askOne() {
        int formula = formula();
        boolean known = model.has(formula);
        switch (pick(6)) {
            case 0:
                due("formulaSize(" + formula + ")", tested.formulaSize(formula), known ? model.formulas.get(formula).length() : -1);
                break;
            case 1:
                due("variableCount(" + formula + ")", tested.variableCount(formula),
                    known ? Model.variables(model.formulas.get(formula)) : -1);
                break;
            case 2:
                due("majorOf(" + formula + ")", tested.majorOf(formula), known ? model.majors.get(formula) : -1);
                break;
            case 3:
                due("minorOf(" + formula + ")", tested.minorOf(formula), known ? model.minors.get(formula) : -1);
                break;
            case 4:
                due("proofDepth(" + formula + ")", tested.proofDepth(formula), known ? model.depth(formula) : -1);
                break;
            default:
                due("proofSize(" + formula + ")", tested.proofSize(formula), known ? model.signs(formula) : -1);
                break;
        }
    }

    private void type(String text) {
        if (pick(20) != 0) {
            due("clearText()", tested.clearText(), model.clearText());
        }
        for (int i = 0; i < text.length(); i++) {
            due("append(" + (int) text.charAt(i) + ")", tested.append(text.charAt(i)), model.append(text.charAt(i)));
        }
        if (pick(30) == 0) {
            int sign = odd();
            due("append(" + sign + ")", tested.append(sign), model.append(sign));
        }
    }

    private String formulaText() {
        String text = pick(3) > 0 ? AXIOMS[pick(AXIOMS.length)] : tree(pick(4) == 0 ? 6 : 4, 1 + pick(pick(5) == 0 ? 26 : 5));
        return pick(12) == 0 ? spoil(text, "Cap1D()Z~") : text;
    }

    private String tree(int depth, int letters) {
        if (depth == 0 || pick(5) == 0) {
            return "" + (char) ('a' + pick(letters));
        }
        return "C" + tree(depth - 1, letters) + tree(depth - 1, letters);
    }

    private String proofText() {
        int digits = Math.max(1, Math.min(9, model.formulas.size()));
        String text = proofTree(pick(5), digits);
        return pick(12) == 0 ? spoil(text, "D0123456789C") : text;
    }

    private String proofTree(int depth, int digits) {
        if (depth == 0 || pick(4) == 0) {
            return "" + (char) ('1' + pick(digits));
        }
        return "D" + proofTree(depth - 1, digits) + proofTree(depth - 1, digits);
    }

    private String termText() {
        String text = pick(2) == 0 ? TERMS[pick(TERMS.length)] : termItems(3);
        if (pick(40) == 0) {
            text = text + text + text + text + text + text + text;
        }
        return pick(12) == 0 ? spoil(text, "SKI()(((())))a@") : text;
    }

    private String termItems(int depth) {
        StringBuilder items = new StringBuilder();
        int count = 1 + pick(4);
        for (int i = 0; i < count; i++) {
            items.append(depth > 0 && pick(3) == 0 ? "(" + termItems(depth - 1) + ")" : "SKIBCW".charAt(pick(6)));
        }
        return items.toString();
    }

    private String spoil(String text, String signs) {
        int at = pick(text.length() + 1);
        switch (pick(3)) {
            case 0:
                return text.substring(0, at);
            case 1:
                return text.substring(0, at) + signs.charAt(pick(signs.length())) + text.substring(at);
            default:
                return text + signs.charAt(pick(signs.length()));
        }
    }

    /** A formula or a term: a leaf with a sign, or a pair. */
    private static final class Tree {
        final Tree left;
        final Tree right;
        final int leaf;

        Tree(int leaf) {
            this.leaf = leaf;
            left = null;
            right = null;
        }

        Tree(Tree left, Tree right) {
            this.left = left;
            this.right = right;
            leaf = -1;
        }

        int leaves() {
            return left == null ? 1 : left.leaves() + right.leaves();
        }
    }

    private static final class GrammarError extends RuntimeException {
        final int position;

        GrammarError(int position) {
            this.position = position;
        }
    }

    private static final class Failure extends RuntimeException {
        final int code;

        Failure(int code) {
            this.code = code;
        }
    }

    /** The document in other words. */
    private static final class Model {
        final StringBuilder text = new StringBuilder();
        String output = "";
        final List<String> formulas = new ArrayList<>();
        final List<Integer> majors = new ArrayList<>();
        final List<Integer> minors = new ArrayList<>();
        final int[][] table = {{2, 2, 2}, {1, 2, 2}, {0, 1, 2}};
        int designated = 4;
        final Object[] rows = new Object[3];
        private int position;
        private int open;

        boolean has(int formula) {
            return formula >= 0 && formula < formulas.size();
        }

        int append(int character) {
            if (character < 33 || character > 126) {
                return -2;
            }
            if (text.length() == 80) {
                return -3;
            }
            return text.append((char) character).length();
        }

        int clearText() {
            int length = text.length();
            text.setLength(0);
            return length;
        }

        // formulas

        private Tree readPolish(char branch, String leaves) {
            Tree tree = readPart(branch, leaves);
            if (position < text.length()) {
                throw new GrammarError(position);
            }
            return tree;
        }

        private Tree readPart(char branch, String leaves) {
            if (position == text.length()) {
                throw new GrammarError(position);
            }
            char sign = text.charAt(position);
            if (sign == branch) {
                position++;
                Tree left = readPart(branch, leaves);
                return new Tree(left, readPart(branch, leaves));
            }
            if (leaves.indexOf(sign) < 0) {
                throw new GrammarError(position);
            }
            position++;
            return new Tree(sign);
        }

        private static Tree parse(String formula, int[] at, int shift) {
            char sign = formula.charAt(at[0]++);
            if (sign == 'C') {
                Tree left = parse(formula, at, shift);
                return new Tree(left, parse(formula, at, shift));
            }
            return new Tree(sign + shift);
        }

        private static Tree parse(String formula, int shift) {
            return parse(formula, new int[1], shift);
        }

        static int variables(String formula) {
            return (int) formula.chars().filter(c -> c != 'C').distinct().count();
        }

        private static void print(Tree tree, Map<Integer, Tree> bound, Map<Integer, Integer> names, StringBuilder out) {
            if (tree.left != null) {
                out.append('C');
                print(tree.left, bound, names, out);
                print(tree.right, bound, names, out);
            } else if (bound.containsKey(tree.leaf)) {
                print(bound.get(tree.leaf), bound, names, out);
            } else {
                names.putIfAbsent(tree.leaf, names.size());
                out.append((char) ('a' + names.get(tree.leaf)));
            }
        }

        private static double sizeOf(Tree tree, Map<Integer, Tree> bound, Map<Integer, Double> known) {
            if (tree.left != null) {
                return 1 + sizeOf(tree.left, bound, known) + sizeOf(tree.right, bound, known);
            }
            if (!bound.containsKey(tree.leaf)) {
                return 1;
            }
            if (!known.containsKey(tree.leaf)) {
                known.put(tree.leaf, sizeOf(bound.get(tree.leaf), bound, known));
            }
            return known.get(tree.leaf);
        }

        /** The formula in its kept form; a failure if it is too large. */
        private static String kept(Tree tree, Map<Integer, Tree> bound) {
            if (sizeOf(tree, bound, new HashMap<>()) > 39) {
                throw new Failure(-5);
            }
            Map<Integer, Integer> names = new HashMap<>();
            StringBuilder out = new StringBuilder();
            print(tree, bound, names, out);
            if (names.size() > 12) {
                throw new Failure(-5);
            }
            return out.toString();
        }

        private static boolean occurs(int variable, Tree tree, Map<Integer, Tree> bound) {
            if (tree.left != null) {
                return occurs(variable, tree.left, bound) || occurs(variable, tree.right, bound);
            }
            return tree.leaf == variable || bound.containsKey(tree.leaf) && occurs(variable, bound.get(tree.leaf), bound);
        }

        private static Tree walk(Tree tree, Map<Integer, Tree> bound) {
            while (tree.left == null && bound.containsKey(tree.leaf)) {
                tree = bound.get(tree.leaf);
            }
            return tree;
        }

        private static boolean unified(Tree first, Tree second, Map<Integer, Tree> bound) {
            Tree a = walk(first, bound);
            Tree b = walk(second, bound);
            if (a == b || a.left == null && b.left == null && a.leaf == b.leaf) {
                return true;
            }
            if (a.left == null) {
                return bind(a.leaf, b, bound);
            }
            if (b.left == null) {
                return bind(b.leaf, a, bound);
            }
            return unified(a.left, b.left, bound) && unified(a.right, b.right, bound);
        }

        private static boolean bind(int variable, Tree tree, Map<Integer, Tree> bound) {
            if (occurs(variable, tree, bound)) {
                return false;
            }
            bound.put(variable, tree);
            return true;
        }

        private static String detached(String major, String minor) {
            Tree implication = parse(major, 0);
            Map<Integer, Tree> bound = new HashMap<>();
            if (implication.left == null || !unified(implication.left, parse(minor, 1000), bound)) {
                throw new Failure(-4);
            }
            return kept(implication.right, bound);
        }

        private int enter(String formula, int major, int minor) {
            int known = formulas.indexOf(formula);
            if (known >= 0) {
                return known;
            }
            if (formulas.size() == 60) {
                throw new Failure(-3);
            }
            formulas.add(formula);
            majors.add(major);
            minors.add(minor);
            return formulas.size() - 1;
        }

        int addAxiom() {
            position = 0;
            try {
                return enter(kept(readPolish('C', "abcdefghijklmnopqrstuvwxyz"), Map.of()), -4, -4);
            } catch (GrammarError error) {
                return -100 - error.position;
            } catch (Failure failure) {
                return failure.code;
            } finally {
                clearText();
            }
        }

        int detach(int major, int minor) {
            if (!has(major) || !has(minor)) {
                return -1;
            }
            try {
                return enter(detached(formulas.get(major), formulas.get(minor)), major, minor);
            } catch (Failure failure) {
                return failure.code;
            }
        }

        int prove() {
            position = 0;
            int before = formulas.size();
            try {
                return proveTree(readPolish('D', "123456789".substring(0, Math.min(9, before))));
            } catch (GrammarError error) {
                return -100 - error.position;
            } catch (Failure failure) {
                cut(before);
                return failure.code;
            } finally {
                clearText();
            }
        }

        private int proveTree(Tree proof) {
            if (proof.left == null) {
                return proof.leaf - '1';
            }
            int major = proveTree(proof.left);
            int minor = proveTree(proof.right);
            return enter(detached(formulas.get(major), formulas.get(minor)), major, minor);
        }

        int cut(int count) {
            int removed = formulas.size() - count;
            if (count < 0 || removed < 0) {
                return -2;
            }
            for (int i = 0; i < removed; i++) {
                formulas.remove(formulas.size() - 1);
                majors.remove(majors.size() - 1);
                minors.remove(minors.size() - 1);
            }
            return removed;
        }

        int depth(int formula) {
            int[] depths = new int[formula + 1];
            for (int i = 0; i <= formula; i++) {
                depths[i] = majors.get(i) < 0 ? 0 : 1 + Math.max(depths[majors.get(i)], depths[minors.get(i)]);
            }
            return depths[formula];
        }

        long signs(int formula) {
            long[] signs = new long[formula + 1];
            for (int i = 0; i <= formula; i++) {
                signs[i] = majors.get(i) < 0 ? 0 : 1 + signs[majors.get(i)] + signs[minors.get(i)];
            }
            return signs[formula];
        }

        int writeFormula(int formula) {
            if (!has(formula)) {
                return -1;
            }
            output = formulas.get(formula);
            return output.length();
        }

        private String proofOf(int formula) {
            if (majors.get(formula) < 0) {
                return formula < 9 ? "" + (char) ('1' + formula) : "?";
            }
            return "D" + proofOf(majors.get(formula)) + proofOf(minors.get(formula));
        }

        int writeProof(int formula) {
            if (!has(formula)) {
                return -1;
            }
            if (2 * signs(formula) + 1 > 100) {
                return -5;
            }
            String proof = proofOf(formula);
            if (!proof.matches("[D1-9]*")) {
                return -5;
            }
            output = proof;
            return output.length();
        }

        private static boolean matched(Tree general, Tree tree, Map<Integer, String> bound) {
            if (general.left != null) {
                return tree.left != null && matched(general.left, tree.left, bound) && matched(general.right, tree.right, bound);
            }
            String part = plain(tree);
            String previous = bound.putIfAbsent(general.leaf, part);
            return previous == null || previous.equals(part);
        }

        private static String plain(Tree tree) {
            return tree.left == null ? "" + (char) tree.leaf : "C" + plain(tree.left) + plain(tree.right);
        }

        private static boolean instance(String formula, String general) {
            return matched(parse(general, 0), parse(formula, 0), new HashMap<>());
        }

        int isInstance(int formula, int general) {
            if (!has(formula) || !has(general)) {
                return -1;
            }
            return instance(formulas.get(formula), formulas.get(general)) ? 1 : 0;
        }

        int moreGeneral(int formula) {
            if (!has(formula)) {
                return -1;
            }
            for (int i = 0; i < formulas.size(); i++) {
                if (i != formula && instance(formulas.get(formula), formulas.get(i))) {
                    return i;
                }
            }
            return -4;
        }

        int unify(int first, int second) {
            if (!has(first) || !has(second)) {
                return -1;
            }
            Tree a = parse(formulas.get(first), 0);
            Map<Integer, Tree> bound = new HashMap<>();
            if (!unified(a, parse(formulas.get(second), 1000), bound)) {
                return -4;
            }
            try {
                output = kept(a, bound);
            } catch (Failure failure) {
                return failure.code;
            }
            return output.length();
        }

        int round(int limit) {
            if (limit < 1 || limit > 39) {
                return -2;
            }
            int before = formulas.size();
            for (int pair = 0; pair < before * before && formulas.size() < 60; pair++) {
                try {
                    String result = detached(formulas.get(pair / before), formulas.get(pair % before));
                    if (result.length() <= limit && formulas.stream().noneMatch(known -> instance(result, known))) {
                        enter(result, pair / before, pair % before);
                    }
                } catch (Failure failure) {
                    continue;
                }
            }
            return formulas.size() - before;
        }

        /** Keeps all formulas that have a proof of just so many signs, also those that have a shorter one. */
        int shortest(int formula, int most) {
            if (!has(formula)) {
                return -1;
            }
            if (most < 0 || most > 4) {
                return -2;
            }
            List<Set<String>> bySigns = new ArrayList<>();
            Set<String> all = new LinkedHashSet<>();
            for (int signs = 0; signs <= most; signs++) {
                Set<String> level = new LinkedHashSet<>();
                if (signs == 0) {
                    for (int i = 0; i < formulas.size(); i++) {
                        if (majors.get(i) < 0) {
                            level.add(formulas.get(i));
                        }
                    }
                }
                for (int i = 0; i < signs; i++) {
                    addDetached(bySigns.get(i), bySigns.get(signs - 1 - i), level);
                }
                bySigns.add(level);
                all.addAll(level);
                if (all.size() > 120) {
                    return -5;
                }
                for (String candidate : level) {
                    if (instance(formulas.get(formula), candidate)) {
                        return signs;
                    }
                }
            }
            return -4;
        }

        private static void addDetached(Set<String> majors, Set<String> minors, Set<String> level) {
            for (String major : majors) {
                for (String minor : minors) {
                    try {
                        level.add(detached(major, minor));
                    } catch (Failure failure) {
                        continue;
                    }
                }
            }
        }

        // matrix

        int setEntry(int x, int y, int value) {
            if (x < 0 || x > 2 || y < 0 || y > 2) {
                return -1;
            }
            if (value < 0 || value > 2) {
                return -2;
            }
            int previous = table[x][y];
            table[x][y] = value;
            return previous;
        }

        int setDesignated(int values) {
            if (values < 0 || values > 7) {
                return -2;
            }
            int previous = designated;
            designated = values;
            return previous;
        }

        private boolean good(int value) {
            return (designated & 1 << value) != 0;
        }

        int isNormal() {
            int normal = 1;
            for (int xy = 0; xy < 9; xy++) {
                if (good(xy / 3) && good(table[xy / 3][xy % 3]) && !good(xy % 3)) {
                    normal = 0;
                }
            }
            return normal;
        }

        private int value(Tree tree, int[] valuation) {
            return tree.left == null ? valuation[tree.leaf - 'a'] : table[value(tree.left, valuation)][value(tree.right, valuation)];
        }

        /** All values of the formula in the order of the valuations. */
        private int[] values(int formula) {
            int variables = variables(formulas.get(formula));
            Tree tree = parse(formulas.get(formula), 0);
            int[] values = new int[(int) Math.round(Math.pow(3, variables))];
            for (int i = 0; i < values.length; i++) {
                values[i] = value(tree, valuation(i, variables));
            }
            return values;
        }

        private static int[] valuation(int number, int variables) {
            int[] valuation = new int[variables];
            int rest = number;
            for (int i = variables - 1; i >= 0; i--) {
                valuation[i] = rest % 3;
                rest /= 3;
            }
            return valuation;
        }

        int isValid(int formula) {
            if (!has(formula)) {
                return -1;
            }
            int answer = refutation(formula, 0);
            return answer == -5 ? -5 : answer == -4 ? 1 : 0;
        }

        int refutation(int formula, int variable) {
            if (!has(formula) || variable < 0 || variable >= variables(formulas.get(formula))) {
                return -1;
            }
            int variables = variables(formulas.get(formula));
            if (variables > 8) {
                return -5;
            }
            int[] values = values(formula);
            for (int i = 0; i < values.length; i++) {
                if (!good(values[i])) {
                    return valuation(i, variables)[variable];
                }
            }
            return -4;
        }

        int countValuations(int formula, int value) {
            if (!has(formula) || value < 0 || value > 2) {
                return -1;
            }
            if (variables(formulas.get(formula)) > 8) {
                return -5;
            }
            int count = 0;
            for (int found : values(formula)) {
                count += found == value ? 1 : 0;
            }
            return count;
        }

        // combinators

        private Tree readTerm() {
            position = 0;
            open = 0;
            Tree term = readItems();
            if (position < text.length()) {
                throw new GrammarError(position);
            }
            return term;
        }

        private Tree readItems() {
            Tree term = readItem();
            while (position < text.length() && text.charAt(position) != ')' ) {
                term = new Tree(term, readItem());
            }
            return term;
        }

        private Tree readItem() {
            if (position == text.length()) {
                throw new GrammarError(position);
            }
            char sign = text.charAt(position);
            if ("SKIBCW".indexOf(sign) >= 0) {
                position++;
                return new Tree(sign);
            }
            if (sign != '(' || open == 8) {
                throw new GrammarError(position);
            }
            open++;
            position++;
            Tree term = readItems();
            if (position == text.length()) {
                throw new GrammarError(position);
            }
            open--;
            position++;
            return term;
        }

        private static String typeOf(Tree term) {
            if (term.left != null) {
                String major = typeOf(term.left);
                return detached(major, typeOf(term.right));
            }
            return Map.of('I', "Caa", 'K', "CaCba", 'S', "CCaCbcCCabCac", 'B', "CCabCCcaCcb", 'C', "CCaCbcCbCac",
                'W', "CCaCabCab").get((char) term.leaf);
        }

        int addType() {
            try {
                return enter(typeOf(readTerm()), -4, -4);
            } catch (GrammarError error) {
                return -100 - error.position;
            } catch (Failure failure) {
                return failure.code;
            } finally {
                clearText();
            }
        }

        private static Tree of(Tree first, Tree... others) {
            Tree term = first;
            for (Tree other : others) {
                term = new Tree(term, other);
            }
            return term;
        }

        private static Tree contracted(char head, List<Tree> a) {
            switch (head) {
                case 'I':
                    return a.get(0);
                case 'K':
                    return a.get(0);
                case 'S':
                    return of(a.get(0), a.get(2), of(a.get(1), a.get(2)));
                case 'B':
                    return of(a.get(0), of(a.get(1), a.get(2)));
                case 'C':
                    return of(a.get(0), a.get(2), a.get(1));
                default:
                    return of(a.get(0), a.get(1), a.get(1));
            }
        }

        /** The term after one step, or null if no part reduces. */
        private static Tree stepped(Tree term) {
            List<Tree> arguments = new ArrayList<>();
            Tree head = term;
            while (head.left != null) {
                arguments.add(0, head.right);
                head = head.left;
            }
            int arity = "?IKSBCW".indexOf(head.leaf) == 1 ? 1 : "KW".indexOf(head.leaf) >= 0 ? 2 : 3;
            if (arguments.size() >= arity) {
                Tree result = contracted((char) head.leaf, arguments);
                return of(result, arguments.subList(arity, arguments.size()).toArray(new Tree[0]));
            }
            for (int i = 0; i < arguments.size(); i++) {
                Tree next = stepped(arguments.get(i));
                if (next != null) {
                    arguments.set(i, next);
                    return of(head, arguments.toArray(new Tree[0]));
                }
            }
            return null;
        }

        private static String written(Tree term) {
            if (term.left == null) {
                return "" + (char) term.leaf;
            }
            String argument = written(term.right);
            return written(term.left) + (term.right.left == null ? argument : "(" + argument + ")");
        }

        int reduceTerm(int steps) {
            try {
                if (steps < 0 || steps > 50) {
                    return -2;
                }
                Tree term = readTerm();
                int made = 0;
                for (Tree next = stepped(term); made < steps && next != null; next = stepped(term)) {
                    if (next.leaves() > 40) {
                        return -5;
                    }
                    term = next;
                    made++;
                }
                output = written(term);
                return made;
            } catch (GrammarError error) {
                return -100 - error.position;
            } finally {
                clearText();
            }
        }

        // rows

        private boolean noRow(int row) {
            return row < 0 || row > 2;
        }

        private static int length(Object row) {
            return java.lang.reflect.Array.getLength(row);
        }

        int allocate(int row, int type, int length) {
            if (noRow(row)) {
                return -1;
            }
            if (type < 0 || type > 2 || length > 80) {
                return -2;
            }
            if (length < 0) {
                return -9;
            }
            rows[row] = type == 0 ? new byte[length] : type == 1 ? new char[length] : new int[length];
            return length;
        }

        int put(int row, int index, int value) {
            if (noRow(row)) {
                return -1;
            }
            if (rows[row] == null) {
                return -6;
            }
            if (index < 0 || index >= length(rows[row])) {
                return -8;
            }
            if (rows[row] instanceof byte[]) {
                ((byte[]) rows[row])[index] = (byte) value;
            } else if (rows[row] instanceof char[]) {
                ((char[]) rows[row])[index] = (char) value;
            } else {
                ((int[]) rows[row])[index] = value;
            }
            return 1;
        }

        long rowElement(int row, int index) {
            if (noRow(row) || rows[row] == null || index < 0 || index >= length(rows[row])) {
                return Long.MIN_VALUE;
            }
            return java.lang.reflect.Array.getLong(rows[row], index);
        }

        int copyElements(int from, int first, int to, int second, int count) {
            if (noRow(from) || noRow(to)) {
                return -1;
            }
            if (rows[from] == null || rows[to] == null) {
                return -6;
            }
            if (rows[from].getClass() != rows[to].getClass()) {
                return -7;
            }
            try {
                System.arraycopy(rows[from], first, rows[to], second, count);
            } catch (IndexOutOfBoundsException outside) {
                return -8;
            }
            return count;
        }

        int storeOutput(int row, int index) {
            if (noRow(row)) {
                return -1;
            }
            if (rows[row] == null) {
                return -6;
            }
            if (index < 0 || (long) index + output.length() > length(rows[row])) {
                return -8;
            }
            for (int i = 0; i < output.length(); i++) {
                put(row, index + i, output.charAt(i));
            }
            return output.length();
        }

        int loadText(int row, int index, int count) {
            if (noRow(row)) {
                return -1;
            }
            if (rows[row] == null) {
                return -6;
            }
            if (index < 0 || count < 0 || (long) index + count > length(rows[row])) {
                return -8;
            }
            for (int i = 0; i < count; i++) {
                if (append((int) rowElement(row, index + i)) < 0) {
                    return i;
                }
            }
            return count;
        }
    }
}
