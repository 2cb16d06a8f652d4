import java.util.Arrays;

/** A workbench for condensed detachment in implicational logic. All room is taken when it is made; no call takes more. */
public final class CondensedDetachment {
    public static final int NO_SUCH_ELEMENT = -1;
    public static final int BAD_VALUE = -2;
    public static final int FULL = -3;
    public static final int NONE = -4;
    public static final int TOO_LARGE = -5;
    public static final int MISSING_ROW = -6;
    public static final int WRONG_TYPE = -7;
    public static final int OUT_OF_BOUNDS = -8;
    public static final int NEGATIVE_LENGTH = -9;

    private static final int DONE = 0;
    private static final int ABSENT = -1;
    private static final int NO_ERROR = -1;
    private static final int ERROR_BASE = -100;

    private static final int FIRST_CHARACTER = 33;
    private static final int LAST_CHARACTER = 126;
    private static final int TEXT_LIMIT = 80;
    /** The longest output is a term of 40 letters with 38 pairs of parentheses, 116 signs. */
    private static final int TEXT_ROOM = 120;

    private static final int SIZE_LIMIT = 39;
    private static final int VARIABLE_LIMIT = 12;
    private static final int LIST_LIMIT = 60;
    private static final int IMPLIES = -1;
    private static final char IMPLICATION_SIGN = 'C';
    private static final char DETACHMENT_SIGN = 'D';
    private static final int PROOF_SIGNS_LIMIT = 49;
    private static final int LAST_WRITABLE_AXIOM = 8;

    private static final int LEVEL_LIMIT = 4;
    private static final int LEVEL_FORMULA_LIMIT = 120;

    private static final int VALUE_COUNT = 3;
    private static final int DESIGNATED_LIMIT = 7;
    private static final int VALUATION_LIMIT = 8;

    private static final char APPLY = '@';
    private static final int OPEN_LIMIT = 8;
    private static final int STEP_LIMIT = 50;
    private static final int ARITY_LIMIT = 3;
    private static final int TERM_SIZE_LIMIT = 40;
    /** A term of 80 letters, the most that a text holds, has 79 applications. */
    private static final int TERM_ROOM = 160;
    /** Each of the 9 levels of parentheses holds one type back while the next item is typed. */
    private static final int TYPE_ROOM = OPEN_LIMIT + 2;

    private static final int ROW_COUNT = 3;
    private static final int ROW_LIMIT = 80;
    private static final int TYPE_BYTE = 0;
    private static final int TYPE_CHAR = 1;
    private static final int TYPE_INT = 2;
    /** The least long, which no element of a row can be. */
    private static final long NO_ELEMENT = 1L << 63;

    private final Text text;
    private final Text output;
    private final FormulaList list;
    private final Unifier unifier;
    private final Matcher matcher;
    private final Levels levels;
    private final Matrix matrix;
    private final Term term;
    private final Row[] rows;
    private final Formula[] types;
    private final Formula result;
    private final int[] names;
    private final int[] pending;

    public CondensedDetachment() {
        text = new Text();
        output = new Text();
        list = new FormulaList();
        unifier = new Unifier();
        matcher = new Matcher();
        levels = new Levels(unifier, matcher);
        matrix = new Matrix();
        term = new Term();
        rows = new Row[ROW_COUNT];
        for (int i = 0; i < ROW_COUNT; i++) {
            rows[i] = new Row();
        }
        types = new Formula[TYPE_ROOM];
        for (int i = 0; i < TYPE_ROOM; i++) {
            types[i] = new Formula();
        }
        result = new Formula();
        names = new int[VARIABLE_LIMIT];
        pending = new int[TEXT_ROOM];
    }

    // ---- text and list ----

    public int append(int character) {
        if (character < FIRST_CHARACTER || character > LAST_CHARACTER) {
            return BAD_VALUE;
        }
        if (text.length() >= TEXT_LIMIT) {
            return FULL;
        }
        text.add((char) character);
        return text.length();
    }

    public int clearText() {
        int previous = text.length();
        text.makeEmpty();
        return previous;
    }

    public int addAxiom() {
        int error = polishError(IMPLICATION_SIGN, 'a', 'z');
        int answer = error == NO_ERROR ? enterText() : ERROR_BASE - error;
        text.makeEmpty();
        return answer;
    }

    public int detach(int major, int minor) {
        if (!list.has(major) || !list.has(minor)) {
            return NO_SUCH_ELEMENT;
        }
        return derive(major, minor);
    }

    public int prove() {
        char lastDigit = (char) ('0' + Math.min(9, list.count()));
        int error = polishError(DETACHMENT_SIGN, '1', lastDigit);
        int answer = error == NO_ERROR ? proveText() : ERROR_BASE - error;
        text.makeEmpty();
        return answer;
    }

    public int cut(int count) {
        int previous = list.count();
        if (count < 0 || count > previous) {
            return BAD_VALUE;
        }
        list.shrinkTo(count);
        return previous - count;
    }

    public int listSize() {
        return list.count();
    }

    public int formulaSize(int formula) {
        return list.has(formula) ? list.at(formula).size() : NO_SUCH_ELEMENT;
    }

    public int variableCount(int formula) {
        return list.has(formula) ? list.at(formula).variables() : NO_SUCH_ELEMENT;
    }

    public int majorOf(int formula) {
        return list.has(formula) ? list.major(formula) : NO_SUCH_ELEMENT;
    }

    public int minorOf(int formula) {
        return list.has(formula) ? list.minor(formula) : NO_SUCH_ELEMENT;
    }

    public int proofDepth(int formula) {
        return list.has(formula) ? list.depth(formula) : NO_SUCH_ELEMENT;
    }

    public long proofSize(int formula) {
        return list.has(formula) ? list.proofSigns(formula) : NO_SUCH_ELEMENT;
    }

    // ---- output ----

    public int writeFormula(int formula) {
        if (!list.has(formula)) {
            return NO_SUCH_ELEMENT;
        }
        return outputFormula(list.at(formula));
    }

    public int writeProof(int formula) {
        if (!list.has(formula)) {
            return NO_SUCH_ELEMENT;
        }
        if (list.proofSigns(formula) > PROOF_SIGNS_LIMIT || list.lastAxiom(formula) > LAST_WRITABLE_AXIOM) {
            return TOO_LARGE;
        }
        outputProof(formula);
        return output.length();
    }

    public int outputLength() {
        return output.length();
    }

    public int outputAt(int index) {
        return index >= 0 && index < output.length() ? output.at(index) : NO_SUCH_ELEMENT;
    }

    // ---- comparing and deriving ----

    public int isInstance(int formula, int general) {
        if (!list.has(formula) || !list.has(general)) {
            return NO_SUCH_ELEMENT;
        }
        return matcher.matches(list.at(formula), list.at(general)) ? 1 : 0;
    }

    public int moreGeneral(int formula) {
        if (!list.has(formula)) {
            return NO_SUCH_ELEMENT;
        }
        for (int other = 0; other < list.count(); other++) {
            if (other != formula && matcher.matches(list.at(formula), list.at(other))) {
                return other;
            }
        }
        return NONE;
    }

    public int unify(int first, int second) {
        if (!list.has(first) || !list.has(second)) {
            return NO_SUCH_ELEMENT;
        }
        int outcome = unifier.unifyInto(list.at(first), list.at(second), result);
        return outcome == DONE ? outputFormula(result) : outcome;
    }

    public int round(int limit) {
        if (limit < 1 || limit > SIZE_LIMIT) {
            return BAD_VALUE;
        }
        int before = list.count();
        for (int major = 0; major < before && !list.isFull(); major++) {
            for (int minor = 0; minor < before && !list.isFull(); minor++) {
                tryInRound(major, minor, limit);
            }
        }
        return list.count() - before;
    }

    public int shortest(int formula, int most) {
        if (!list.has(formula)) {
            return NO_SUCH_ELEMENT;
        }
        if (most < 0 || most > LEVEL_LIMIT) {
            return BAD_VALUE;
        }
        return levels.search(list, list.at(formula), most);
    }

    // ---- matrix ----

    public int setEntry(int x, int y, int value) {
        if (!isTruthValue(x) || !isTruthValue(y)) {
            return NO_SUCH_ELEMENT;
        }
        return isTruthValue(value) ? matrix.replaceEntry(x, y, value) : BAD_VALUE;
    }

    public int setDesignated(int values) {
        return values < 0 || values > DESIGNATED_LIMIT ? BAD_VALUE : matrix.replaceDesignated(values);
    }

    public int isNormal() {
        return matrix.keepsDesignation() ? 1 : 0;
    }

    public int isValid(int formula) {
        if (!list.has(formula)) {
            return NO_SUCH_ELEMENT;
        }
        if (list.at(formula).variables() > VALUATION_LIMIT) {
            return TOO_LARGE;
        }
        return matrix.refutes(list.at(formula)) ? 0 : 1;
    }

    public int refutation(int formula, int variable) {
        if (!list.has(formula) || variable < 0 || variable >= list.at(formula).variables()) {
            return NO_SUCH_ELEMENT;
        }
        if (list.at(formula).variables() > VALUATION_LIMIT) {
            return TOO_LARGE;
        }
        return matrix.refutes(list.at(formula)) ? matrix.variableValue(variable) : NONE;
    }

    public int countValuations(int formula, int value) {
        if (!list.has(formula) || !isTruthValue(value)) {
            return NO_SUCH_ELEMENT;
        }
        if (list.at(formula).variables() > VALUATION_LIMIT) {
            return TOO_LARGE;
        }
        return matrix.countOf(list.at(formula), value);
    }

    // ---- combinators ----

    public int addType() {
        int error = termError();
        int answer = error == NO_ERROR ? enterType() : ERROR_BASE - error;
        text.makeEmpty();
        return answer;
    }

    public int reduceTerm(int steps) {
        int answer = BAD_VALUE;
        if (steps >= 0 && steps <= STEP_LIMIT) {
            int error = termError();
            answer = error == NO_ERROR ? reduceText(steps) : ERROR_BASE - error;
        }
        text.makeEmpty();
        return answer;
    }

    // ---- rows ----

    public int allocate(int row, int type, int length) {
        if (!isRow(row)) {
            return NO_SUCH_ELEMENT;
        }
        if (type < TYPE_BYTE || type > TYPE_INT || length > ROW_LIMIT) {
            return BAD_VALUE;
        }
        if (length < 0) {
            return NEGATIVE_LENGTH;
        }
        rows[row].renew(type, length);
        return length;
    }

    public int put(int row, int index, int value) {
        int fault = rowFault(row);
        if (fault != DONE) {
            return fault;
        }
        if (!rows[row].spans(index, 1)) {
            return OUT_OF_BOUNDS;
        }
        rows[row].set(index, value);
        return 1;
    }

    public long rowElement(int row, int index) {
        if (rowFault(row) != DONE || !rows[row].spans(index, 1)) {
            return NO_ELEMENT;
        }
        return rows[row].at(index);
    }

    public int copyElements(int from, int first, int to, int second, int count) {
        if (!isRow(from) || !isRow(to)) {
            return NO_SUCH_ELEMENT;
        }
        if (rows[from].isMissing() || rows[to].isMissing()) {
            return MISSING_ROW;
        }
        if (rows[from].type() != rows[to].type()) {
            return WRONG_TYPE;
        }
        if (!rows[from].spans(first, count) || !rows[to].spans(second, count)) {
            return OUT_OF_BOUNDS;
        }
        rows[to].copyFrom(rows[from], first, second, count);
        return count;
    }

    public int storeOutput(int row, int index) {
        int fault = rowFault(row);
        if (fault != DONE) {
            return fault;
        }
        if (!rows[row].spans(index, output.length())) {
            return OUT_OF_BOUNDS;
        }
        for (int i = 0; i < output.length(); i++) {
            rows[row].set(index + i, output.at(i));
        }
        return output.length();
    }

    public int loadText(int row, int index, int count) {
        int fault = rowFault(row);
        if (fault != DONE) {
            return fault;
        }
        if (!rows[row].spans(index, count)) {
            return OUT_OF_BOUNDS;
        }
        int loaded = 0;
        while (loaded < count && append(rows[row].at(index + loaded)) > 0) {
            loaded++;
        }
        return loaded;
    }

    // ---- helpers of the face ----

    /** In Polish notation the number of parts still to come tells all: none may follow the last one. */
    private int polishError(char branch, char firstLeaf, char lastLeaf) {
        int due = 1;
        for (int i = 0; i < text.length(); i++) {
            char sign = text.at(i);
            boolean leaf = sign >= firstLeaf && sign <= lastLeaf;
            if (due == 0 || !leaf && sign != branch) {
                return i;
            }
            due += leaf ? -1 : 1;
        }
        return due == 0 ? NO_ERROR : text.length();
    }

    private int termError() {
        int open = 0;
        boolean itemDue = true;
        for (int i = 0; i < text.length(); i++) {
            char sign = text.at(i);
            if (sign == '(') {
                if (open >= OPEN_LIMIT) {
                    return i;
                }
                open++;
                itemDue = true;
            } else if (sign == ')') {
                if (open == 0 || itemDue) {
                    return i;
                }
                open--;
            } else if (Term.arityOf(sign) > 0) {
                itemDue = false;
            } else {
                return i;
            }
        }
        return open == 0 && !itemDue ? NO_ERROR : text.length();
    }

    private int enterText() {
        result.makeEmpty();
        for (int i = 0; i < text.length(); i++) {
            if (!result.addLetter(text.at(i), names)) {
                return TOO_LARGE;
            }
        }
        return list.enter(result, NONE, NONE);
    }

    private int derive(int major, int minor) {
        int outcome = unifier.detachInto(list.at(major), list.at(minor), result);
        return outcome == DONE ? list.enter(result, major, minor) : outcome;
    }

    /** Goes through a proof that follows the grammar; pending holds for each open D its major formula, once it is known. */
    private int proveText() {
        int before = list.count();
        int open = 0;
        int proved = ABSENT;
        for (int i = 0; i < text.length(); i++) {
            if (text.at(i) == DETACHMENT_SIGN) {
                pending[open] = ABSENT;
                open++;
                continue;
            }
            proved = text.at(i) - '1';
            while (open > 0 && pending[open - 1] != ABSENT) {
                open--;
                proved = derive(pending[open], proved);
                if (proved < 0) {
                    list.shrinkTo(before);
                    return proved;
                }
            }
            if (open > 0) {
                pending[open - 1] = proved;
            }
        }
        return proved;
    }

    private int outputFormula(Formula formula) {
        output.makeEmpty();
        formula.writeTo(output);
        return output.length();
    }

    /** Called for proofs of at most 49 signs D only, so that pending and the output have room. */
    private void outputProof(int formula) {
        output.makeEmpty();
        pending[0] = formula;
        int open = 1;
        for (int written = 0; written < TEXT_ROOM && open > 0; written++) {
            open--;
            int part = pending[open];
            if (list.isAxiom(part)) {
                output.add((char) ('1' + part));
            } else {
                output.add(DETACHMENT_SIGN);
                pending[open] = list.minor(part);
                pending[open + 1] = list.major(part);
                open += 2;
            }
        }
    }

    private void tryInRound(int major, int minor, int limit) {
        int outcome = unifier.detachInto(list.at(major), list.at(minor), result);
        if (outcome == DONE && result.size() <= limit && !list.covers(result, matcher)) {
            list.enter(result, major, minor);
        }
    }

    private int enterType() {
        term.read(text);
        int held = 0;
        for (int i = 0; i < term.length(); i++) {
            char sign = term.at(i);
            if (sign == APPLY && held >= 2) {
                held--;
                int outcome = unifier.detachInto(types[held - 1], types[held], types[held - 1]);
                if (outcome != DONE) {
                    return outcome;
                }
            } else if (sign != APPLY && held < TYPE_ROOM) {
                readType(sign, types[held]);
                held++;
            }
        }
        return list.enter(types[0], NONE, NONE);
    }

    private void readType(char letter, Formula formula) {
        String type = Term.typeOf(letter);
        formula.makeEmpty();
        for (int i = 0; i < type.length(); i++) {
            formula.addLetter(type.charAt(i), names);
        }
    }

    private int reduceText(int steps) {
        term.read(text);
        int made = 0;
        while (made < steps && term.findRedex()) {
            if (term.sizeAfterStep() > TERM_SIZE_LIMIT) {
                return TOO_LARGE;
            }
            term.makeStep();
            made++;
        }
        output.makeEmpty();
        term.writeTo(output);
        return made;
    }

    private int rowFault(int row) {
        if (!isRow(row)) {
            return NO_SUCH_ELEMENT;
        }
        return rows[row].isMissing() ? MISSING_ROW : DONE;
    }

    private static boolean isRow(int row) {
        return row >= 0 && row < ROW_COUNT;
    }

    private static boolean isTruthValue(int value) {
        return value >= 0 && value < VALUE_COUNT;
    }

    // ---- classes inside ----

    /** A text of at most TEXT_ROOM signs. */
    private static final class Text {
        private final char[] signs = new char[TEXT_ROOM];
        private int length;

        int length() {
            return length;
        }

        char at(int index) {
            return signs[index];
        }

        void add(char sign) {
            if (length < TEXT_ROOM) {
                signs[length] = sign;
                length++;
            }
        }

        void makeEmpty() {
            length = 0;
        }
    }

    /** A formula in Polish notation, its variables numbered as they first occur, so that variants are equal. */
    private static final class Formula {
        private final int[] signs = new int[SIZE_LIMIT];
        private int size;
        private int variables;

        int size() {
            return size;
        }

        int variables() {
            return variables;
        }

        int at(int index) {
            return signs[index];
        }

        boolean isImplication() {
            return size > 0 && signs[0] == IMPLIES;
        }

        void makeEmpty() {
            size = 0;
            variables = 0;
        }

        /** The answer of this and the next two methods is false if the formula would be too large. */
        boolean addSign(int sign) {
            if (size >= SIZE_LIMIT) {
                return false;
            }
            signs[size] = sign;
            size++;
            return true;
        }

        /** The caller lends the row in which the names of the numbered variables are kept while the formula grows. */
        boolean addVariable(int name, int[] names) {
            int number = 0;
            while (number < variables && names[number] != name) {
                number++;
            }
            if (number == variables) {
                if (variables >= VARIABLE_LIMIT) {
                    return false;
                }
                names[number] = name;
                variables++;
            }
            return addSign(number);
        }

        boolean addLetter(char letter, int[] names) {
            return letter == IMPLICATION_SIGN ? addSign(IMPLIES) : addVariable(letter, names);
        }

        void copyFrom(Formula other) {
            System.arraycopy(other.signs, 0, signs, 0, other.size);
            size = other.size;
            variables = other.variables;
        }

        boolean sameAs(Formula other) {
            return size == other.size && sameSigns(0, other, 0, size);
        }

        boolean sameSigns(int start, Formula other, int otherStart, int count) {
            for (int i = 0; i < count; i++) {
                if (signs[start + i] != other.signs[otherStart + i]) {
                    return false;
                }
            }
            return true;
        }

        /** The index behind the part that begins at an index. */
        int endOf(int start) {
            int due = 1;
            int end = start;
            while (end < size && due > 0) {
                due += signs[end] == IMPLIES ? 1 : -1;
                end++;
            }
            return end;
        }

        void writeTo(Text target) {
            for (int i = 0; i < size; i++) {
                target.add(signs[i] == IMPLIES ? IMPLICATION_SIGN : (char) ('a' + signs[i]));
            }
        }
    }

    /** The list, with what is known of the proof of each formula. */
    private static final class FormulaList {
        private final Formula[] formulas = new Formula[LIST_LIMIT];
        private final int[] majors = new int[LIST_LIMIT];
        private final int[] minors = new int[LIST_LIMIT];
        private final int[] depths = new int[LIST_LIMIT];
        private final int[] lastAxioms = new int[LIST_LIMIT];
        private final long[] proofSigns = new long[LIST_LIMIT];
        private int count;

        FormulaList() {
            for (int i = 0; i < LIST_LIMIT; i++) {
                formulas[i] = new Formula();
            }
        }

        int count() {
            return count;
        }

        boolean isFull() {
            return count >= LIST_LIMIT;
        }

        boolean has(int number) {
            return number >= 0 && number < count;
        }

        Formula at(int number) {
            return formulas[number];
        }

        boolean isAxiom(int number) {
            return majors[number] == NONE;
        }

        int major(int number) {
            return majors[number];
        }

        int minor(int number) {
            return minors[number];
        }

        int depth(int number) {
            return depths[number];
        }

        long proofSigns(int number) {
            return proofSigns[number];
        }

        /** The greatest number of an axiom that the proof needs. */
        int lastAxiom(int number) {
            return lastAxioms[number];
        }

        void shrinkTo(int newCount) {
            count = newCount;
        }

        /** An axiom has NONE for its major and its minor formula. */
        int enter(Formula formula, int major, int minor) {
            for (int i = 0; i < count; i++) {
                if (formulas[i].sameAs(formula)) {
                    return i;
                }
            }
            if (isFull()) {
                return FULL;
            }
            formulas[count].copyFrom(formula);
            majors[count] = major;
            minors[count] = minor;
            boolean derived = has(major) && has(minor);
            depths[count] = derived ? 1 + Math.max(depths[major], depths[minor]) : 0;
            proofSigns[count] = derived ? 1 + proofSigns[major] + proofSigns[minor] : 0;
            lastAxioms[count] = derived ? Math.max(lastAxioms[major], lastAxioms[minor]) : count;
            count++;
            return count - 1;
        }

        boolean covers(Formula formula, Matcher matcher) {
            for (int i = 0; i < count; i++) {
                if (matcher.matches(formula, formulas[i])) {
                    return true;
                }
            }
            return false;
        }
    }

    /** Tells instances. */
    private static final class Matcher {
        private final int[] starts = new int[VARIABLE_LIMIT];

        boolean matches(Formula formula, Formula general) {
            if (general.size() > formula.size()) {
                return false;
            }
            int bound = 0;
            int place = 0;
            for (int i = 0; i < general.size(); i++) {
                int sign = general.at(i);
                if (place >= formula.size()) {
                    return false;
                }
                if (sign == IMPLIES) {
                    if (formula.at(place) != IMPLIES) {
                        return false;
                    }
                    place++;
                    continue;
                }
                int end = formula.endOf(place);
                if (sign == bound) {
                    starts[sign] = place;
                    bound++;
                } else if (!formula.sameSigns(place, formula, starts[sign], end - place)) {
                    return false;
                }
                place = end;
            }
            return true;
        }
    }

    /**
     * Unifies by merging the parts of two formulas into classes of parts that must become equal. Equal parts are never
     * written out twice, so a substitution that would grow beyond all bounds costs no more than any other.
     */
    private static final class Unifier {
        private static final int NODES = 2 * SIZE_LIMIT;
        /** Each merger leaves one class less and asks for at most two more. */
        private static final int QUEUE = 2 * NODES;

        private final int[] right = new int[NODES];
        private final int[] parent = new int[NODES];
        /** For the head of a class an implication in it, or ABSENT if it has variables only. */
        private final int[] shape = new int[NODES];
        private final int[] sizes = new int[NODES];
        private final int[] stack = new int[NODES];
        private final int[] queueFirst = new int[QUEUE];
        private final int[] queueSecond = new int[QUEUE];
        private final int[] leaders = new int[VARIABLE_LIMIT];
        private final int[] names = new int[VARIABLE_LIMIT];
        private int nodes;
        private int queued;

        /** The result may be one of the two formulas. */
        int detachInto(Formula major, Formula minor, Formula result) {
            if (!major.isImplication()) {
                return NONE;
            }
            int minorNode = major.size();
            load(major, 0);
            load(minor, minorNode);
            mergeAll(1, minorNode);
            return measure() ? writeOut(right[0], result) : NONE;
        }

        int unifyInto(Formula first, Formula second, Formula result) {
            int secondNode = first.size();
            load(first, 0);
            load(second, secondNode);
            mergeAll(0, secondNode);
            return measure() ? writeOut(0, result) : NONE;
        }

        /** Goes backwards, so that both parts of an implication are on the stack when it comes; the left one is next to it. */
        private void load(Formula formula, int offset) {
            Arrays.fill(leaders, ABSENT);
            int depth = 0;
            for (int i = formula.size() - 1; i >= 0; i--) {
                int node = offset + i;
                int sign = formula.at(i);
                parent[node] = node;
                if (sign != IMPLIES) {
                    shape[node] = ABSENT;
                    if (leaders[sign] == ABSENT) {
                        leaders[sign] = node;
                    }
                    parent[node] = leaders[sign];
                    stack[depth] = node;
                    depth++;
                } else if (depth >= 2) {
                    shape[node] = node;
                    depth--;
                    right[node] = stack[depth - 1];
                    stack[depth - 1] = node;
                }
            }
            nodes = offset + formula.size();
        }

        /** Afterwards the parent of each part is the head of its class. */
        private void mergeAll(int first, int second) {
            queued = 0;
            enqueue(first, second);
            for (int i = 0; i < queued && i < QUEUE; i++) {
                merge(headOf(queueFirst[i]), headOf(queueSecond[i]));
            }
            for (int node = 0; node < nodes; node++) {
                parent[node] = headOf(node);
            }
        }

        private void enqueue(int first, int second) {
            if (queued < QUEUE) {
                queueFirst[queued] = first;
                queueSecond[queued] = second;
                queued++;
            }
        }

        private int headOf(int node) {
            int head = node;
            for (int hops = 0; hops < NODES && parent[head] != head; hops++) {
                head = parent[head];
            }
            return head;
        }

        private void merge(int head, int other) {
            if (head == other) {
                return;
            }
            parent[other] = head;
            int headShape = shape[head];
            int otherShape = shape[other];
            if (headShape == ABSENT) {
                shape[head] = otherShape;
            } else if (otherShape != ABSENT) {
                enqueue(headShape + 1, otherShape + 1);
                enqueue(right[headShape], right[otherShape]);
            }
        }

        /** Sizes grow from the variables upwards; a class that never gets one would contain itself, so there is no result. */
        private boolean measure() {
            int open = 0;
            for (int node = 0; node < nodes; node++) {
                boolean variable = parent[node] == node && shape[node] == ABSENT;
                sizes[node] = variable ? 1 : 0;
                open += parent[node] == node && !variable ? 1 : 0;
            }
            boolean changed = true;
            for (int pass = 0; pass < NODES && changed && open > 0; pass++) {
                changed = false;
                for (int node = nodes - 1; node >= 0; node--) {
                    if (parent[node] == node && sizes[node] == 0 && measureClass(node)) {
                        open--;
                        changed = true;
                    }
                }
            }
            return open == 0;
        }

        /** All sizes above the limit are as good as the first one. */
        private boolean measureClass(int head) {
            int leftSize = sizes[parent[shape[head] + 1]];
            int rightSize = sizes[parent[right[shape[head]]]];
            if (leftSize == 0 || rightSize == 0) {
                return false;
            }
            sizes[head] = Math.min(leftSize + rightSize + 1, SIZE_LIMIT + 1);
            return true;
        }

        private int writeOut(int start, Formula result) {
            if (sizes[parent[start]] > SIZE_LIMIT) {
                return TOO_LARGE;
            }
            result.makeEmpty();
            stack[0] = start;
            int depth = 1;
            for (int written = 0; written < SIZE_LIMIT && depth > 0; written++) {
                depth--;
                int head = parent[stack[depth]];
                int implication = shape[head];
                if (implication != ABSENT) {
                    result.addSign(IMPLIES);
                    stack[depth] = right[implication];
                    stack[depth + 1] = implication + 1;
                    depth += 2;
                } else if (!result.addVariable(head, names)) {
                    return TOO_LARGE;
                }
            }
            return DONE;
        }
    }

    /** The formulas that have proofs, by the least number of signs D in them. */
    private static final class Levels {
        private final Unifier unifier;
        private final Matcher matcher;
        private final Formula result = new Formula();
        private final Formula[] formulas = new Formula[LEVEL_FORMULA_LIMIT];
        /** Level k has the formulas from starts[k] up to starts[k + 1]. */
        private final int[] starts = new int[LEVEL_LIMIT + 2];
        private int count;

        Levels(Unifier unifier, Matcher matcher) {
            this.unifier = unifier;
            this.matcher = matcher;
            for (int i = 0; i < LEVEL_FORMULA_LIMIT; i++) {
                formulas[i] = new Formula();
            }
        }

        int search(FormulaList list, Formula goal, int most) {
            count = 0;
            for (int level = 0; level <= most && level <= LEVEL_LIMIT; level++) {
                starts[level] = count;
                boolean whole = level == 0 ? addAxioms(list) : addLevel(level);
                if (!whole) {
                    return TOO_LARGE;
                }
                starts[level + 1] = count;
                if (covers(goal, level)) {
                    return level;
                }
            }
            return NONE;
        }

        private boolean addAxioms(FormulaList list) {
            for (int i = 0; i < list.count(); i++) {
                if (list.isAxiom(i) && !addNew(list.at(i))) {
                    return false;
                }
            }
            return true;
        }

        /** A formula on a lower level has a shorter proof, which does whatever a longer one would do, so pairs of levels suffice. */
        private boolean addLevel(int level) {
            for (int majorLevel = 0; majorLevel < level; majorLevel++) {
                if (!combine(majorLevel, level - 1 - majorLevel)) {
                    return false;
                }
            }
            return true;
        }

        private boolean combine(int majorLevel, int minorLevel) {
            for (int major = starts[majorLevel]; major < starts[majorLevel + 1]; major++) {
                for (int minor = starts[minorLevel]; minor < starts[minorLevel + 1]; minor++) {
                    int outcome = unifier.detachInto(formulas[major], formulas[minor], result);
                    if (outcome == DONE && !isKnown(result) && !addNew(result)) {
                        return false;
                    }
                }
            }
            return true;
        }

        private boolean isKnown(Formula formula) {
            for (int i = 0; i < count; i++) {
                if (formulas[i].sameAs(formula)) {
                    return true;
                }
            }
            return false;
        }

        private boolean addNew(Formula formula) {
            if (count >= LEVEL_FORMULA_LIMIT) {
                return false;
            }
            formulas[count].copyFrom(formula);
            count++;
            return true;
        }

        private boolean covers(Formula goal, int level) {
            for (int i = starts[level]; i < starts[level + 1]; i++) {
                if (matcher.matches(goal, formulas[i])) {
                    return true;
                }
            }
            return false;
        }
    }

    /** A table for the implication of three values, and the designated values. */
    private static final class Matrix {
        private final int[] table = {2, 2, 2, 1, 2, 2, 0, 1, 2};
        private final int[] values = new int[VALUATION_LIMIT];
        private final int[] stack = new int[SIZE_LIMIT];
        private int designated = 4;

        int replaceEntry(int x, int y, int value) {
            int previous = table[VALUE_COUNT * x + y];
            table[VALUE_COUNT * x + y] = value;
            return previous;
        }

        int replaceDesignated(int newValues) {
            int previous = designated;
            designated = newValues;
            return previous;
        }

        boolean keepsDesignation() {
            for (int x = 0; x < VALUE_COUNT; x++) {
                for (int y = 0; y < VALUE_COUNT; y++) {
                    if (isDesignated(x) && isDesignated(table[VALUE_COUNT * x + y]) && !isDesignated(y)) {
                        return false;
                    }
                }
            }
            return true;
        }

        /** If so, the values stay those of the first valuation that refutes the formula. */
        boolean refutes(Formula formula) {
            int valuations = startValuations(formula.variables());
            for (int i = 0; i < valuations; i++) {
                if (!isDesignated(valueOf(formula))) {
                    return true;
                }
                nextValuation(formula.variables());
            }
            return false;
        }

        int variableValue(int variable) {
            return values[variable];
        }

        int countOf(Formula formula, int value) {
            int valuations = startValuations(formula.variables());
            int found = 0;
            for (int i = 0; i < valuations; i++) {
                if (valueOf(formula) == value) {
                    found++;
                }
                nextValuation(formula.variables());
            }
            return found;
        }

        private boolean isDesignated(int value) {
            return (designated >> value & 1) == 1;
        }

        private int startValuations(int variables) {
            Arrays.fill(values, 0);
            int valuations = 1;
            for (int i = 0; i < variables; i++) {
                valuations *= VALUE_COUNT;
            }
            return valuations;
        }

        private void nextValuation(int variables) {
            int last = variables - 1;
            while (last >= 0 && values[last] == VALUE_COUNT - 1) {
                values[last] = 0;
                last--;
            }
            if (last >= 0) {
                values[last]++;
            }
        }

        private int valueOf(Formula formula) {
            int depth = 0;
            for (int i = formula.size() - 1; i >= 0; i--) {
                int sign = formula.at(i);
                if (sign != IMPLIES) {
                    stack[depth] = values[sign];
                    depth++;
                } else if (depth >= 2) {
                    depth--;
                    stack[depth - 1] = table[VALUE_COUNT * stack[depth] + stack[depth - 1]];
                }
            }
            return stack[0];
        }
    }

    /** A term of combinators in postfix notation, in which the signs APPLY stand in the order in which applications end. */
    private static final class Term {
        private final boolean[] begun = new boolean[OPEN_LIMIT + 1];
        private final boolean[] opens = new boolean[TERM_ROOM];
        private final int[] stack = new int[TERM_ROOM];
        private final int[] starts = new int[ARITY_LIMIT];
        private final int[] ends = new int[ARITY_LIMIT];
        private char[] signs = new char[TERM_ROOM];
        private char[] spare = new char[TERM_ROOM];
        private int length;
        private int spareLength;
        private int redex;

        /** 0 for a sign that is no combinator. */
        static int arityOf(char letter) {
            switch (letter) {
                case 'I':
                    return 1;
                case 'K':
                case 'W':
                    return 2;
                case 'S':
                case 'B':
                case 'C':
                    return 3;
                default:
                    return 0;
            }
        }

        static String typeOf(char letter) {
            switch (letter) {
                case 'K':
                    return "CaCba";
                case 'S':
                    return "CCaCbcCCabCac";
                case 'B':
                    return "CCabCCcaCcb";
                case 'C':
                    return "CCaCbcCbCac";
                case 'W':
                    return "CCaCabCab";
                default:
                    return "Caa";
            }
        }

        /** What a letter with its arguments, written as 0, 1 and 2, becomes, in postfix notation. */
        private static String contractumOf(char letter) {
            switch (letter) {
                case 'S':
                    return "02@12@@";
                case 'B':
                    return "012@@";
                case 'C':
                    return "02@1@";
                case 'W':
                    return "01@1@";
                default:
                    return "0";
            }
        }

        int length() {
            return length;
        }

        char at(int index) {
            return signs[index];
        }

        /** Reads a text that follows the grammar. */
        void read(Text text) {
            length = 0;
            int open = 0;
            begun[0] = false;
            for (int i = 0; i < text.length(); i++) {
                char sign = text.at(i);
                if (sign == '(') {
                    open = Math.min(open + 1, OPEN_LIMIT);
                    begun[open] = false;
                    continue;
                }
                if (sign == ')') {
                    open = Math.max(open - 1, 0);
                } else {
                    add(sign);
                }
                if (begun[open]) {
                    add(APPLY);
                }
                begun[open] = true;
            }
        }

        private void add(char sign) {
            if (length < TERM_ROOM) {
                signs[length] = sign;
                length++;
            }
        }

        /** A part that reduces begins with its letter, so the first letter with enough arguments is the one. */
        boolean findRedex() {
            for (int i = 0; i < length; i++) {
                if (signs[i] != APPLY && findArguments(i)) {
                    redex = i;
                    return true;
                }
            }
            return false;
        }

        /** An application ends when all that came behind the letter is used up, and the letter itself is not. */
        private boolean findArguments(int letter) {
            int arity = arityOf(signs[letter]);
            int held = 1;
            int found = 0;
            int start = letter + 1;
            for (int i = letter + 1; i < length && held > 0 && found < arity; i++) {
                held += signs[i] == APPLY ? -1 : 1;
                if (held == 1) {
                    starts[found] = start;
                    ends[found] = i;
                    start = i + 1;
                    found++;
                }
            }
            return found == arity;
        }

        /** A term of n letters has 2 n - 1 signs. */
        int sizeAfterStep() {
            String contractum = contractumOf(signs[redex]);
            int newLength = length - (redexEnd() - redex);
            for (int i = 0; i < contractum.length(); i++) {
                int argument = contractum.charAt(i) - '0';
                boolean known = argument >= 0 && argument < ARITY_LIMIT;
                newLength += known ? ends[argument] - starts[argument] : 1;
            }
            return (newLength + 1) / 2;
        }

        private int redexEnd() {
            int arity = arityOf(signs[redex]);
            return arity > 0 ? ends[arity - 1] + 1 : redex;
        }

        void makeStep() {
            String contractum = contractumOf(signs[redex]);
            spareLength = 0;
            copyToSpare(0, redex);
            for (int i = 0; i < contractum.length(); i++) {
                int argument = contractum.charAt(i) - '0';
                if (argument >= 0 && argument < ARITY_LIMIT) {
                    copyToSpare(starts[argument], ends[argument]);
                } else if (spareLength < TERM_ROOM) {
                    spare[spareLength] = APPLY;
                    spareLength++;
                }
            }
            copyToSpare(redexEnd(), length);
            char[] previous = signs;
            signs = spare;
            spare = previous;
            length = spareLength;
        }

        private void copyToSpare(int start, int end) {
            for (int i = start; i < end && spareLength < TERM_ROOM; i++) {
                spare[spareLength] = signs[i];
                spareLength++;
            }
        }

        void writeTo(Text target) {
            markOpenings();
            for (int i = 0; i < length; i++) {
                if (opens[i]) {
                    target.add('(');
                }
                if (signs[i] != APPLY) {
                    target.add(signs[i]);
                } else if (i > 0 && signs[i - 1] == APPLY) {
                    target.add(')');
                }
            }
        }

        /** Only an argument that is an application itself, and so ends with APPLY, stands in parentheses. */
        private void markOpenings() {
            int depth = 0;
            for (int i = 0; i < length; i++) {
                opens[i] = false;
                if (signs[i] != APPLY) {
                    stack[depth] = i;
                    depth++;
                } else if (depth >= 2) {
                    depth--;
                    if (signs[i - 1] == APPLY) {
                        opens[stack[depth]] = true;
                    }
                }
            }
        }
    }

    /** A row of elements of one type, missing until it is renewed. */
    private static final class Row {
        private final int[] elements = new int[ROW_LIMIT];
        private int type;
        private int length = ABSENT;

        boolean isMissing() {
            return length == ABSENT;
        }

        int type() {
            return type;
        }

        void renew(int newType, int newLength) {
            Arrays.fill(elements, 0);
            type = newType;
            length = newLength;
        }

        boolean spans(int index, int count) {
            return index >= 0 && count >= 0 && index <= length - count;
        }

        int at(int index) {
            return elements[index];
        }

        void set(int index, int value) {
            switch (type) {
                case TYPE_BYTE:
                    elements[index] = (byte) value;
                    break;
                case TYPE_CHAR:
                    elements[index] = (char) value;
                    break;
                default:
                    elements[index] = value;
                    break;
            }
        }

        void copyFrom(Row other, int first, int second, int count) {
            System.arraycopy(other.elements, first, elements, second, count);
        }
    }
}
