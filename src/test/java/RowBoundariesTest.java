/** The boundary cases of the promises 32 to 37: allocate, put, rowElement, copyElements, storeOutput and loadText. */
public final class RowBoundariesTest {
    private static final int[] NO_ROWS = {-1, 3, 4, -3, Checks.MIN, Checks.MAX};

    public static void main(String[] args) {
        Checks.run(RowBoundariesTest.class);
    }

    private static Bench withRow(int row, int type, int length) {
        Bench x = new Bench();
        Checks.due(x.allocate(row, type, length), length);
        return x;
    }

    /** Rows 0 and 1 have ints: 10, 11, 12, 13, 14 and 20, 21, 22. */
    private static void twoRows(Bench x) {
        x.allocate(0, 2, 5);
        x.allocate(1, 2, 3);
        for (int i = 0; i < 5; i++) {
            x.put(0, i, 10 + i);
        }
        for (int i = 0; i < 3; i++) {
            x.put(1, i, 20 + i);
        }
    }

    private static Bench withTwoRows() {
        Bench x = new Bench();
        twoRows(x);
        return x;
    }

    /** Row 0 has the elements, as ints; the text and the output are those of busy. */
    private static Bench withElements(int... elements) {
        Bench x = withRow(0, 2, elements.length);
        for (int i = 0; i < elements.length; i++) {
            x.put(0, i, elements[i]);
        }
        return x;
    }

    // ---- promise 32 ----

    static void promise32_rows0To2AreTaken() {
        for (int row = 0; row < 3; row++) {
            Bench x = withRow(row, 0, 1);
            for (int other = 0; other < 3; other++) {
                Checks.due(x.rowElement(other, 0), other == row ? 0 : Long.MIN_VALUE);
            }
        }
    }

    static void promise32_rowsOutsideAreNoSuchElement() {
        for (int row : NO_ROWS) {
            Checks.due(new Bench().allocate(row, 0, 1), Checks.NO_SUCH);
        }
    }

    static void promise32_types0To2AreTaken() {
        Bench x = new Bench();
        for (int type = 0; type < 3; type++) {
            Checks.due(x.allocate(0, type, 1), 1);
            x.put(0, 0, -1);
            Checks.due(x.rowElement(0, 0), type == 1 ? 65535 : -1);
            x.put(0, 0, 300);
            Checks.due(x.rowElement(0, 0), type == 0 ? 44 : 300);
        }
    }

    static void promise32_typesOutsideAreBadValue() {
        for (int type : new int[] {-1, 3, 4, Checks.MIN, Checks.MAX}) {
            Checks.due(new Bench().allocate(0, type, 1), Checks.BAD);
        }
    }

    static void promise32_length0IsTaken() {
        Bench x = withRow(1, 1, 0);
        Checks.due(x.put(1, 0, 0), Checks.BOUNDS);
        Checks.due(x.rowElement(1, 0), Long.MIN_VALUE);
    }

    static void promise32_lengthMinus1IsNegativeLength() {
        Checks.due(new Bench().allocate(0, 0, -1), Checks.NEGATIVE);
        Checks.due(new Bench().allocate(2, 2, Checks.MIN), Checks.NEGATIVE);
    }

    static void promise32_length80IsTaken() {
        for (int type = 0; type < 3; type++) {
            Bench x = withRow(type, type, 80);
            Checks.due(x.put(type, 79, 7), 1);
            Checks.due(x.put(type, 80, 7), Checks.BOUNDS);
            Checks.due(x.rowElement(type, 79), 7);
        }
    }

    static void promise32_length81IsBadValue() {
        Checks.due(new Bench().allocate(0, 0, 81), Checks.BAD);
        Checks.due(new Bench().allocate(0, 2, Checks.MAX), Checks.BAD);
    }

    static void promise32_noSuchElementIsCheckedBeforeBadValue() {
        Checks.due(new Bench().allocate(3, 3, 1), Checks.NO_SUCH);
        Checks.due(new Bench().allocate(3, 0, 81), Checks.NO_SUCH);
        Checks.due(new Bench().allocate(-1, 0, -1), Checks.NO_SUCH);
    }

    static void promise32_badValueIsCheckedBeforeNegativeLength() {
        Checks.due(new Bench().allocate(0, 3, -1), Checks.BAD);
        Checks.due(new Bench().allocate(0, -1, Checks.MIN), Checks.BAD);
    }

    static void promise32_newRowIsFilledWith0() {
        Bench x = withRow(0, 2, 80);
        for (int i = 0; i < 80; i++) {
            x.put(0, i, i + 1);
        }
        Checks.due(x.allocate(0, 2, 80), 80);
        Checks.due(x.elements(0), "0 ".repeat(80));
    }

    static void promise32_newRowReplacesALongerOne() {
        Bench x = withRow(0, 2, 5);
        x.put(0, 4, 9);
        Checks.due(x.allocate(0, 0, 2), 2);
        Checks.due(x.rowElement(0, 2), Long.MIN_VALUE);
        Checks.due(x.rowElement(0, 4), Long.MIN_VALUE);
        Checks.due(x.allocate(0, 0, 5), 5);
        Checks.due(x.rowElement(0, 4), 0);
    }

    static void promise32_newRowOfLength0ReplacesARow() {
        Bench x = withRow(0, 2, 5);
        Checks.due(x.allocate(0, 2, 0), 0);
        Checks.due(x.put(0, 0, 1), Checks.BOUNDS);
    }

    static void promise32_refusalsLeaveAll() {
        Checks.leavesAll(Checks::busy, x -> x.allocate(3, 0, 1), Checks.NO_SUCH);
        Checks.leavesAll(Checks::busy, x -> x.allocate(0, 3, 1), Checks.BAD);
        Checks.leavesAll(Checks::busy, x -> x.allocate(0, 2, 81), Checks.BAD);
        Checks.leavesAll(Checks::busy, x -> x.allocate(1, 2, -1), Checks.NEGATIVE);
        Checks.leavesAll(Checks::busy, x -> x.allocate(2, 0, -1), Checks.NEGATIVE);
    }

    static void promise32_onlyTheRowChanges() {
        Checks.same(Checks::busy, x -> {
            Checks.busy(x);
            x.allocate(1, 2, 80);
            x.allocate(1, 1, 3);
            x.put(1, 0, 65535);
            x.put(1, 2, 'C');
        });
    }

    // ---- promise 33 ----

    static void promise33_rowsOutsideAreNoSuchElement() {
        for (int row : NO_ROWS) {
            Checks.due(new Bench().put(row, 0, 0), Checks.NO_SUCH);
        }
    }

    static void promise33_missingRow() {
        Bench x = withRow(1, 0, 1);
        Checks.due(x.put(0, 0, 0), Checks.MISSING);
        Checks.due(x.put(2, 0, 0), Checks.MISSING);
        Checks.due(x.put(1, 0, 0), 1);
    }

    static void promise33_firstAndLastIndexAreTaken() {
        Bench x = withRow(0, 2, 3);
        Checks.due(x.put(0, 0, 5), 1);
        Checks.due(x.put(0, 2, 6), 1);
        Checks.due(x.elements(0), "5 0 6 ");
    }

    static void promise33_indexesOutsideAreOutOfBounds() {
        Bench x = withRow(0, 2, 3);
        for (int index : new int[] {-1, 3, 79, 80, Checks.MIN, Checks.MAX}) {
            Checks.due(x.put(0, index, 5), Checks.BOUNDS);
        }
        Checks.due(x.elements(0), "0 0 0 ");
    }

    static void promise33_orderOfTheChecks() {
        Bench x = new Bench();
        Checks.due(x.put(3, -1, 0), Checks.NO_SUCH);
        Checks.due(x.put(0, -1, 0), Checks.MISSING);
        x.allocate(0, 0, 0);
        Checks.due(x.put(0, -1, 0), Checks.BOUNDS);
        Checks.due(x.put(0, 0, 0), Checks.BOUNDS);
    }

    private static void dueNarrowed(int type, int value, long element) {
        Bench x = withRow(0, type, 1);
        Checks.due(x.put(0, 0, value), 1);
        Checks.due(x.rowElement(0, 0), element);
    }

    static void promise33_valuesOfBytesWrapAround() {
        dueNarrowed(0, 127, 127);
        dueNarrowed(0, 128, -128);
        dueNarrowed(0, -128, -128);
        dueNarrowed(0, -129, 127);
        dueNarrowed(0, 255, -1);
        dueNarrowed(0, 256, 0);
        dueNarrowed(0, Checks.MAX, -1);
        dueNarrowed(0, Checks.MIN, 0);
    }

    static void promise33_valuesOfCharsWrapAround() {
        dueNarrowed(1, 65535, 65535);
        dueNarrowed(1, 65536, 0);
        dueNarrowed(1, 0, 0);
        dueNarrowed(1, -1, 65535);
        dueNarrowed(1, 32768, 32768);
        dueNarrowed(1, Checks.MAX, 65535);
        dueNarrowed(1, Checks.MIN, 0);
    }

    static void promise33_valuesOfIntsStay() {
        dueNarrowed(2, Checks.MAX, Checks.MAX);
        dueNarrowed(2, Checks.MIN, Checks.MIN);
        dueNarrowed(2, -1, -1);
        dueNarrowed(2, 65536, 65536);
    }

    static void promise33_refusalsLeaveAll() {
        Checks.leavesAll(Checks::busy, x -> x.put(3, 0, 1), Checks.NO_SUCH);
        Checks.leavesAll(Checks::busy, x -> x.put(2, 0, 1), Checks.MISSING);
        Checks.leavesAll(Checks::busy, x -> x.put(0, 5, 1), Checks.BOUNDS);
        Checks.leavesAll(Checks::busy, x -> x.put(0, -1, 1), Checks.BOUNDS);
    }

    // ---- promise 34 ----

    static void promise34_rowsOutside() {
        for (int row : NO_ROWS) {
            Checks.due(new Bench().rowElement(row, 0), Long.MIN_VALUE);
        }
    }

    static void promise34_missingRow() {
        for (int row = 0; row < 3; row++) {
            Checks.due(new Bench().rowElement(row, 0), Long.MIN_VALUE);
        }
    }

    static void promise34_firstAndLastIndex() {
        Bench x = withTwoRows();
        Checks.due(x.rowElement(0, 0), 10);
        Checks.due(x.rowElement(0, 4), 14);
    }

    static void promise34_indexesOutside() {
        Bench x = withTwoRows();
        for (int index : new int[] {-1, 3, 4, 79, 80, Checks.MIN, Checks.MAX}) {
            Checks.due(x.rowElement(1, index), Long.MIN_VALUE);
        }
    }

    static void promise34_emptyRow() {
        Checks.due(withRow(0, 0, 0).rowElement(0, 0), Long.MIN_VALUE);
    }

    static void promise34_leastIntIsAnElement() {
        Checks.due(withElements(Checks.MIN).rowElement(0, 0), -2147483648L);
    }

    static void promise34_leavesAll() {
        Checks.leavesAll(Checks::busy, x -> x.rowElement(0, 5), Long.MIN_VALUE);
        Checks.leavesAll(Checks::busy, x -> x.rowElement(2, 0), Long.MIN_VALUE);
        Checks.leavesAll(Checks::busy, x -> x.rowElement(3, 0), Long.MIN_VALUE);
        Checks.leavesAll(Checks::busy, x -> x.rowElement(0, 1), -7);
    }

    // ---- promise 35 ----

    static void promise35_rowsOutsideAreNoSuchElement() {
        Bench x = withTwoRows();
        for (int row : NO_ROWS) {
            Checks.due(x.copyElements(row, 0, 0, 0, 1), Checks.NO_SUCH);
            Checks.due(x.copyElements(0, 0, row, 0, 1), Checks.NO_SUCH);
            Checks.due(x.copyElements(row, 0, row, 0, 1), Checks.NO_SUCH);
        }
    }

    static void promise35_missingRow() {
        Bench x = withTwoRows();
        Checks.due(x.copyElements(0, 0, 2, 0, 0), Checks.MISSING);
        Checks.due(x.copyElements(2, 0, 0, 0, 0), Checks.MISSING);
        Checks.due(x.copyElements(2, 0, 2, 0, 0), Checks.MISSING);
    }

    static void promise35_otherTypeIsWrongType() {
        for (int from = 0; from < 3; from++) {
            for (int to = 0; to < 3; to++) {
                Bench x = withRow(0, from, 2);
                x.allocate(1, to, 2);
                Checks.due(x.copyElements(0, 0, 1, 0, 2), from == to ? 2 : Checks.TYPE);
                Checks.due(x.copyElements(0, 0, 1, 0, 0), from == to ? 0 : Checks.TYPE);
            }
        }
    }

    static void promise35_orderOfTheChecks() {
        Bench x = new Bench();
        Checks.due(x.copyElements(0, -1, 3, -1, -1), Checks.NO_SUCH);
        Checks.due(x.copyElements(3, -1, 0, -1, -1), Checks.NO_SUCH);
        x.allocate(0, 0, 1);
        Checks.due(x.copyElements(0, -1, 1, -1, -1), Checks.MISSING);
        Checks.due(x.copyElements(1, -1, 0, -1, -1), Checks.MISSING);
        x.allocate(1, 1, 1);
        Checks.due(x.copyElements(0, -1, 1, -1, -1), Checks.TYPE);
        x.allocate(1, 0, 1);
        Checks.due(x.copyElements(0, -1, 1, -1, -1), Checks.BOUNDS);
    }

    static void promise35_negativeArgumentsAreOutOfBounds() {
        Bench x = withTwoRows();
        for (int negative : new int[] {-1, Checks.MIN}) {
            Checks.due(x.copyElements(0, negative, 1, 0, 0), Checks.BOUNDS);
            Checks.due(x.copyElements(0, 0, 1, negative, 0), Checks.BOUNDS);
            Checks.due(x.copyElements(0, 0, 1, 0, negative), Checks.BOUNDS);
        }
    }

    static void promise35_endOfTheFirstRowIsTakenAndOneMoreIsNot() {
        Bench x = withTwoRows();
        Checks.due(x.copyElements(0, 2, 1, 0, 3), 3);
        Checks.due(x.elements(1), "12 13 14 ");
        Checks.due(x.copyElements(0, 3, 1, 0, 3), Checks.BOUNDS);
        Checks.due(x.copyElements(0, 4, 1, 0, 1), 1);
        Checks.due(x.copyElements(0, 5, 1, 0, 1), Checks.BOUNDS);
        Checks.due(x.elements(1), "14 13 14 ");
    }

    static void promise35_endOfTheSecondRowIsTakenAndOneMoreIsNot() {
        Bench x = withTwoRows();
        Checks.due(x.copyElements(0, 0, 1, 0, 3), 3);
        Checks.due(x.copyElements(0, 0, 1, 0, 4), Checks.BOUNDS);
        Checks.due(x.copyElements(0, 0, 1, 1, 3), Checks.BOUNDS);
        Checks.due(x.copyElements(0, 4, 1, 2, 1), 1);
        Checks.due(x.copyElements(0, 4, 1, 3, 1), Checks.BOUNDS);
        Checks.due(x.elements(1), "10 11 14 ");
    }

    static void promise35_noElementsAtTheEndsAreTakenAndBehindAreNot() {
        Bench x = withTwoRows();
        Checks.due(x.copyElements(0, 5, 1, 3, 0), 0);
        Checks.due(x.copyElements(0, 0, 1, 0, 0), 0);
        Checks.due(x.copyElements(0, 6, 1, 3, 0), Checks.BOUNDS);
        Checks.due(x.copyElements(0, 5, 1, 4, 0), Checks.BOUNDS);
        Checks.due(x.elements(1), "20 21 22 ");
    }

    static void promise35_sumsThatWrapAroundAreOutOfBounds() {
        Bench x = withTwoRows();
        Checks.due(x.copyElements(0, 1, 1, 0, Checks.MAX), Checks.BOUNDS);
        Checks.due(x.copyElements(0, 0, 1, 1, Checks.MAX), Checks.BOUNDS);
        Checks.due(x.copyElements(0, Checks.MAX, 1, 0, 1), Checks.BOUNDS);
        Checks.due(x.copyElements(0, 0, 1, Checks.MAX, 1), Checks.BOUNDS);
        Checks.due(x.copyElements(0, Checks.MAX, 1, Checks.MAX, Checks.MAX), Checks.BOUNDS);
        Checks.due(x.copyElements(0, Checks.MAX, 1, Checks.MAX, 2), Checks.BOUNDS);
    }

    static void promise35_emptyRows() {
        Bench x = withRow(0, 1, 0);
        Checks.due(x.copyElements(0, 0, 0, 0, 0), 0);
        Checks.due(x.copyElements(0, 0, 0, 0, 1), Checks.BOUNDS);
        Checks.due(x.copyElements(0, 1, 0, 0, 0), Checks.BOUNDS);
    }

    static void promise35_rowsOf80() {
        Bench x = withRow(0, 0, 80);
        x.allocate(1, 0, 80);
        x.put(0, 79, 5);
        Checks.due(x.copyElements(0, 0, 1, 0, 80), 80);
        Checks.due(x.rowElement(1, 79), 5);
        Checks.due(x.copyElements(0, 0, 1, 0, 81), Checks.BOUNDS);
    }

    static void promise35_sameRowForward() {
        Bench x = withTwoRows();
        Checks.due(x.copyElements(0, 0, 0, 1, 4), 4);
        Checks.due(x.elements(0), "10 10 11 12 13 ");
    }

    static void promise35_sameRowBackward() {
        Bench x = withTwoRows();
        Checks.due(x.copyElements(0, 1, 0, 0, 4), 4);
        Checks.due(x.elements(0), "11 12 13 14 14 ");
    }

    static void promise35_sameRowInItsPlace() {
        Checks.leavesAll(RowBoundariesTest::twoRows, x -> x.copyElements(0, 0, 0, 0, 5), 5);
    }

    static void promise35_refusalsLeaveAll() {
        Checks.leavesAll(Checks::busy, x -> x.copyElements(0, 0, 3, 0, 1), Checks.NO_SUCH);
        Checks.leavesAll(Checks::busy, x -> x.copyElements(0, 0, 2, 0, 1), Checks.MISSING);
        Checks.leavesAll(Checks::busy, x -> x.copyElements(0, 0, 1, 0, 1), Checks.TYPE);
        Checks.leavesAll(RowBoundariesTest::twoRows, x -> x.copyElements(0, 0, 1, 0, 4), Checks.BOUNDS);
        Checks.leavesAll(RowBoundariesTest::twoRows, x -> x.copyElements(0, 0, 0, 1, 5), Checks.BOUNDS);
    }

    // ---- promise 36 ----

    private static Bench withOutput(int type, int length) {
        Bench x = withRow(0, type, length);
        x.axiom("CaCba");
        x.writeFormula(0);
        return x;
    }

    static void promise36_rowsOutsideAreNoSuchElement() {
        Bench x = withOutput(0, 5);
        for (int row : NO_ROWS) {
            Checks.due(x.storeOutput(row, 0), Checks.NO_SUCH);
        }
    }

    static void promise36_missingRow() {
        Bench x = withOutput(0, 5);
        Checks.due(x.storeOutput(1, 0), Checks.MISSING);
        Checks.due(x.storeOutput(2, 0), Checks.MISSING);
    }

    static void promise36_orderOfTheChecks() {
        Bench x = withOutput(0, 5);
        Checks.due(x.storeOutput(3, -1), Checks.NO_SUCH);
        Checks.due(x.storeOutput(1, -1), Checks.MISSING);
        Checks.due(x.storeOutput(0, -1), Checks.BOUNDS);
    }

    static void promise36_outputThatFitsExactly() {
        Bench x = withOutput(1, 5);
        Checks.due(x.storeOutput(0, 0), 5);
        Checks.due(x.elements(0), "67 97 67 98 97 ");
    }

    static void promise36_outputThatFitsAtTheLastIndex() {
        Bench x = withOutput(2, 7);
        Checks.due(x.storeOutput(0, 2), 5);
        Checks.due(x.elements(0), "0 0 67 97 67 98 97 ");
    }

    static void promise36_outputThatEndsOneBehindSetsNothing() {
        Bench x = withOutput(2, 7);
        Checks.due(x.storeOutput(0, 3), Checks.BOUNDS);
        Checks.due(x.elements(0), "0 ".repeat(7));
        Bench y = withOutput(2, 4);
        Checks.due(y.storeOutput(0, 0), Checks.BOUNDS);
        Checks.due(y.elements(0), "0 ".repeat(4));
    }

    static void promise36_indexesOutsideAreOutOfBounds() {
        Bench x = withOutput(2, 7);
        for (int index : new int[] {-1, 7, 8, Checks.MIN, Checks.MAX, Checks.MAX - 4}) {
            Checks.due(x.storeOutput(0, index), Checks.BOUNDS);
        }
        Checks.due(x.elements(0), "0 ".repeat(7));
    }

    static void promise36_bytesHoldAllSigns() {
        Bench x = withOutput(0, 5);
        Checks.due(x.storeOutput(0, 0), 5);
        Checks.due(x.elements(0), "67 97 67 98 97 ");
    }

    static void promise36_emptyOutputFitsFrom0ToTheLength() {
        Bench x = withRow(0, 0, 3);
        for (int index = 0; index <= 3; index++) {
            Checks.due(x.storeOutput(0, index), 0);
        }
        Checks.due(x.elements(0), "0 0 0 ");
    }

    static void promise36_emptyOutputDoesNotFitOutside() {
        Bench x = withRow(0, 0, 3);
        for (int index : new int[] {-1, 4, Checks.MIN, Checks.MAX}) {
            Checks.due(x.storeOutput(0, index), Checks.BOUNDS);
        }
    }

    static void promise36_emptyOutputForAnEmptyRow() {
        Bench x = withRow(0, 0, 0);
        Checks.due(x.storeOutput(0, 0), 0);
        Checks.due(x.storeOutput(0, 1), Checks.BOUNDS);
        Checks.due(x.storeOutput(0, -1), Checks.BOUNDS);
    }

    static void promise36_emptyOutputForAMissingRow() {
        Checks.due(new Bench().storeOutput(0, 0), Checks.MISSING);
        Checks.due(new Bench().storeOutput(3, 0), Checks.NO_SUCH);
    }

    static void promise36_outputOf80SignsFitsTheLongestRow() {
        Bench x = withRow(0, 1, 80);
        x.reduced("S".repeat(80), 0);
        Checks.due(x.storeOutput(0, 1), Checks.BOUNDS);
        Checks.due(x.storeOutput(0, 0), 80);
        Checks.due(x.elements(0), "83 ".repeat(80));
    }

    static void promise36_outputOfMoreThan80SignsFitsNowhere() {
        Bench x = withRow(0, 1, 80);
        Checks.due(x.reduced("WB(WB(WB(WB(BSS))))S", 50), 46);
        Checks.due(x.outputLength(), 95);
        for (int index = 0; index <= 80; index++) {
            Checks.due(x.storeOutput(0, index), Checks.BOUNDS);
        }
        Checks.due(x.elements(0), "0 ".repeat(80));
    }

    static void promise36_refusalsLeaveAll() {
        Checks.leavesAll(Checks::busy, x -> x.storeOutput(3, 0), Checks.NO_SUCH);
        Checks.leavesAll(Checks::busy, x -> x.storeOutput(2, 0), Checks.MISSING);
        Checks.leavesAll(Checks::busy, x -> x.storeOutput(0, 3), Checks.BOUNDS);
        Checks.leavesAll(Checks::busy, x -> x.storeOutput(1, 1), Checks.BOUNDS);
        Checks.leavesAll(Checks::busy, x -> x.storeOutput(0, -1), Checks.BOUNDS);
    }

    // ---- promise 37 ----

    static void promise37_rowsOutsideAreNoSuchElement() {
        for (int row : NO_ROWS) {
            Checks.due(new Bench().loadText(row, 0, 0), Checks.NO_SUCH);
        }
    }

    static void promise37_missingRow() {
        for (int row = 0; row < 3; row++) {
            Checks.due(new Bench().loadText(row, 0, 0), Checks.MISSING);
        }
    }

    static void promise37_orderOfTheChecks() {
        Bench x = withElements('a', 'b');
        Checks.due(x.loadText(3, -1, -1), Checks.NO_SUCH);
        Checks.due(x.loadText(1, -1, -1), Checks.MISSING);
        Checks.due(x.loadText(0, -1, -1), Checks.BOUNDS);
    }

    static void promise37_allElements() {
        Bench x = withElements('C', 'a', 'b');
        Checks.due(x.loadText(0, 0, 3), 3);
        Checks.due(x.addAxiom(), 0);
        Checks.due(x.formula(0), "Cab");
    }

    static void promise37_lastElement() {
        Bench x = withElements('C', 'a', 'b');
        Checks.due(x.loadText(0, 2, 1), 1);
        Checks.due(x.clearText(), 1);
    }

    static void promise37_noElementFrom0ToTheLength() {
        Bench x = withElements('C', 'a', 'b');
        for (int index = 0; index <= 3; index++) {
            Checks.due(x.loadText(0, index, 0), 0);
        }
        Checks.due(x.clearText(), 0);
    }

    static void promise37_indexOrCountOutsideIsOutOfBounds() {
        Bench x = withElements('C', 'a', 'b');
        int[][] outside = {{-1, 1}, {-1, 0}, {0, -1}, {3, -1}, {0, 4}, {1, 3}, {2, 2}, {3, 1}, {4, 0}, {4, -1},
            {Checks.MAX, 1}, {1, Checks.MAX}, {Checks.MAX, Checks.MAX}, {Checks.MIN, 0}, {0, Checks.MIN}, {Checks.MAX, 2}};
        for (int[] pair : outside) {
            Checks.due(x.loadText(0, pair[0], pair[1]), Checks.BOUNDS);
        }
        Checks.due(x.clearText(), 0);
    }

    static void promise37_emptyRow() {
        Bench x = withRow(0, 0, 0);
        Checks.due(x.loadText(0, 0, 0), 0);
        Checks.due(x.loadText(0, 0, 1), Checks.BOUNDS);
        Checks.due(x.loadText(0, 1, 0), Checks.BOUNDS);
    }

    static void promise37_boundsAreCheckedBeforeTheElements() {
        Bench x = withElements('a', 32, 'b');
        Checks.due(x.loadText(0, 0, 4), Checks.BOUNDS);
        Checks.due(x.clearText(), 0);
    }

    static void promise37_elements33And126AreTaken() {
        Bench x = withElements(33, 126);
        Checks.due(x.loadText(0, 0, 2), 2);
        Checks.due(x.clearText(), 2);
    }

    static void promise37_endsBeforeElements32And127() {
        Bench x = withElements('a', 32, 'b');
        Checks.due(x.loadText(0, 0, 3), 1);
        Checks.due(x.clearText(), 1);
        Bench y = withElements('a', 'b', 127);
        Checks.due(y.loadText(0, 0, 3), 2);
        Checks.due(y.clearText(), 2);
    }

    static void promise37_endsBeforeElementsThatAreNoCharacters() {
        for (int element : new int[] {0, -1, 65536 + 'a', Checks.MIN, Checks.MAX, 'a' - 65536}) {
            Bench x = withElements('a', element, 'b');
            Checks.due(x.loadText(0, 0, 3), 1);
            Checks.due(x.clearText(), 1);
        }
    }

    static void promise37_firstElementThatAppendRefuses() {
        Bench x = withElements(0, 'a');
        x.append('b');
        Checks.due(x.loadText(0, 0, 2), 0);
        Checks.due(x.clearText(), 1);
    }

    static void promise37_elementsOfAllTypes() {
        for (int type = 0; type < 3; type++) {
            Bench x = withRow(0, type, 3);
            x.put(0, 0, 'a');
            x.put(0, 1, 256 + 'b');
            x.put(0, 2, 65536 + 'c');
            Checks.due(x.loadText(0, 0, 3), type == 0 ? 3 : 1);
            Checks.due(x.clearText(), type == 0 ? 3 : 1);
            Checks.due(x.loadText(0, 2, 1), type == 2 ? 0 : 1);
        }
    }

    static void promise37_charactersBeforeStay() {
        Bench x = withElements('C', 'a', 32);
        Checks.due(x.loadText(0, 0, 3), 2);
        Checks.due(x.append('b'), 3);
        Checks.due(x.addAxiom(), 0);
        Checks.due(x.formula(0), "Cab");
    }

    static void promise37_appendsToWhatTheTextHas() {
        Bench x = withElements('a', 'b');
        x.append('C');
        Checks.due(x.loadText(0, 0, 2), 2);
        Checks.due(x.addAxiom(), 0);
        Checks.due(x.formula(0), "Cab");
    }

    private static Bench withRowOf80() {
        Bench x = withRow(2, 0, 80);
        for (int i = 0; i < 80; i++) {
            x.put(2, i, 'I');
        }
        return x;
    }

    static void promise37_elements80FillAnEmptyText() {
        Bench x = withRowOf80();
        Checks.due(x.loadText(2, 0, 80), 80);
        Checks.due(x.append('a'), Checks.FULL);
        Checks.due(x.addType(), 0);
    }

    static void promise37_endsWhenTheTextIsFull() {
        Bench x = withRowOf80();
        x.append('I');
        Checks.due(x.loadText(2, 0, 80), 79);
        Checks.due(x.clearText(), 80);
        x.loadText(2, 0, 79);
        Checks.due(x.loadText(2, 0, 2), 1);
        Checks.due(x.clearText(), 80);
    }

    static void promise37_fullTextGetsNothing() {
        Bench x = withRowOf80();
        x.loadText(2, 0, 80);
        Checks.due(x.loadText(2, 0, 80), 0);
        Checks.due(x.loadText(2, 0, 1), 0);
        Checks.due(x.loadText(2, 0, 0), 0);
        Checks.due(x.loadText(2, 0, 81), Checks.BOUNDS);
        Checks.due(x.clearText(), 80);
    }

    static void promise37_refusalsLeaveAll() {
        Checks.leavesAll(Checks::busy, x -> x.loadText(3, 0, 0), Checks.NO_SUCH);
        Checks.leavesAll(Checks::busy, x -> x.loadText(2, 0, 0), Checks.MISSING);
        Checks.leavesAll(Checks::busy, x -> x.loadText(0, 0, 6), Checks.BOUNDS);
        Checks.leavesAll(Checks::busy, x -> x.loadText(0, 4, 2), Checks.BOUNDS);
        Checks.leavesAll(Checks::busy, x -> x.loadText(0, 0, 5), 0);
    }

    static void promise37_onlyTheTextChanges() {
        Checks.same(x -> {
            Checks.busy(x);
            x.append('a');
        }, x -> {
            Checks.busy(x);
            Checks.due(x.loadText(0, 4, 1), 1);
        });
    }
}
