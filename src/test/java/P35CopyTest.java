/** Promise 35: copy. */
final class P35CopyTest {
    public static void main(String[] args) {
        toAnother();
        withinOne();
        rowsOfNone();
        wholeRows();
        refusalsAndFaults();
        Check.end();
    }

    private static void cells(NutsUp x, int k, int sort, int... due) {
        for (int i = 0; i < due.length; i++) {
            Check.due("cell(" + k + ", " + i + ", " + sort + ")", x.cell(k, i, sort), due[i]);
        }
        Check.due("a cell beyond", x.cell(k, due.length, sort), Check.LOST);
    }

    private static void toAnother() {
        NutsUp x = new NutsUp();
        Check.row(x, 0, 1, 1, 2, 3, 4);
        Check.row(x, 1, 1, 10, 20, 30);
        Check.dueFault(x, "copy(0, 1, 1, 0, 2)", x.copy(0, 1, 1, 0, 2), 2, 0);
        cells(x, 0, 1, 1, 2, 3, 4);
        cells(x, 1, 1, 2, 3, 30);
        Check.due("copy(1, 0, 0, 1, 3)", x.copy(1, 0, 0, 1, 3), 3);
        cells(x, 0, 1, 1, 2, 3, 30);
        Check.due("copy(0, 4, 1, 3, 0)", x.copy(0, 4, 1, 3, 0), 0);
        cells(x, 1, 1, 2, 3, 30);
    }

    private static void withinOne() {
        NutsUp x = new NutsUp();
        Check.row(x, 0, 2, 1, 2, 3, 4, 5);
        Check.due("copy(0, 0, 0, 1, 4)", x.copy(0, 0, 0, 1, 4), 4);
        cells(x, 0, 2, 1, 1, 2, 3, 4);
        Check.row(x, 0, 2, 1, 2, 3, 4, 5);
        Check.due("copy(0, 1, 0, 0, 4)", x.copy(0, 1, 0, 0, 4), 4);
        cells(x, 0, 2, 2, 3, 4, 5, 5);
        Check.due("copy(0, 0, 0, 0, 5)", x.copy(0, 0, 0, 0, 5), 5);
        cells(x, 0, 2, 2, 3, 4, 5, 5);
    }

    private static void rowsOfNone() {
        NutsUp x = new NutsUp();
        x.sheet(0, 1, 0);
        Check.row(x, 1, 1, 5, 6);
        Check.dueFault(x, "none within a row of none", x.copy(0, 0, 0, 0, 0), 0, 0);
        Check.dueFault(x, "none from a row of none", x.copy(0, 0, 1, 2, 0), 0, 0);
        Check.dueFault(x, "none to a row of none", x.copy(1, 2, 0, 0, 0), 0, 0);
        Check.dueFault(x, "one from a row of none", x.copy(0, 0, 1, 0, 1), -13, 3);
        Check.dueFault(x, "one to a row of none", x.copy(1, 0, 0, 0, 1), -13, 3);
        Check.dueFault(x, "none to beyond a row of none", x.copy(1, 0, 0, 1, 0), -13, 3);
        cells(x, 1, 1, 5, 6);
    }

    /** All 60 cells at once; numbers as great as their SORT has them go over as they are. */
    private static void wholeRows() {
        int[] least = {Byte.MIN_VALUE, Short.MIN_VALUE, Integer.MIN_VALUE};
        for (int sort = 0; sort < 3; sort++) {
            NutsUp x = new NutsUp();
            x.sheet(0, sort, 60);
            x.sheet(3, sort, 60);
            for (int i = 0; i < 60; i++) {
                x.put(0, i, least[sort] + i);
            }
            Check.dueFault(x, "all 60", x.copy(0, 0, 3, 0, 60), 60, 0);
            Check.dueFault(x, "61", x.copy(0, 0, 3, 0, 61), -13, 3);
            for (int i = 0; i < 60; i++) {
                Check.due("cell " + i, x.cell(3, i, sort), least[sort] + i);
            }
            x.put(0, 59, 77);
            Check.due("the last to the first", x.copy(0, 59, 3, 0, 1), 1);
            Check.due("cell 0", x.cell(3, 0, sort), 77);
            Check.due("cell 1", x.cell(3, 1, sort), least[sort] + 1);
            Check.due("the first to the last", x.copy(0, 0, 3, 59, 1), 1);
            Check.due("cell 59", x.cell(3, 59, sort), least[sort]);
        }
    }

    private static void refusalsAndFaults() {
        NutsUp x = new NutsUp();
        Check.row(x, 0, 0, 1, 2, 3, 4);
        Check.row(x, 1, 0, 5, 6);
        Check.row(x, 2, 1, 7);
        Check.dueFault(x, "copy(3, 0, 2, 0, 1)", x.copy(3, 0, 2, 0, 1), -11, 1);
        Check.dueFault(x, "copy(4, 0, 0, 0, 1)", x.copy(4, 0, 0, 0, 1), -1, 0);
        Check.dueFault(x, "copy(3, 0, 4, 0, 1)", x.copy(3, 0, 4, 0, 1), -1, 0);
        Check.dueFault(x, "copy(-1, 0, 0, 0, 1)", x.copy(-1, 0, 0, 0, 1), -1, 0);
        Check.dueFault(x, "copy(0, 0, -1, 0, 1)", x.copy(0, 0, -1, 0, 1), -1, 0);
        Check.dueFault(x, "copy(0, 0, 3, 0, -1)", x.copy(0, 0, 3, 0, -1), -11, 1);
        Check.dueFault(x, "copy(3, 0, 3, 0, 0)", x.copy(3, 0, 3, 0, 0), -11, 1);
        Check.dueFault(x, "copy(0, 0, 2, 0, -1)", x.copy(0, 0, 2, 0, -1), -12, 2);
        Check.dueFault(x, "copy(2, 9, 1, 0, 1)", x.copy(2, 9, 1, 0, 1), -12, 2);
        Check.dueFault(x, "copy(0, 0, 1, 0, -1)", x.copy(0, 0, 1, 0, -1), -13, 3);
        Check.dueFault(x, "copy(0, -1, 1, 0, 0)", x.copy(0, -1, 1, 0, 0), -13, 3);
        Check.dueFault(x, "copy(0, 5, 1, 0, 0)", x.copy(0, 5, 1, 0, 0), -13, 3);
        Check.dueFault(x, "copy(0, 0, 1, -1, 0)", x.copy(0, 0, 1, -1, 0), -13, 3);
        Check.dueFault(x, "copy(0, 0, 1, 3, 0)", x.copy(0, 0, 1, 3, 0), -13, 3);
        Check.dueFault(x, "copy(0, 0, 1, 0, 3)", x.copy(0, 0, 1, 0, 3), -13, 3);
        Check.dueFault(x, "copy(1, 0, 0, 0, 3)", x.copy(1, 0, 0, 0, 3), -13, 3);
        Check.dueFault(x, "copy(0, 1, 0, 0, MAX)", x.copy(0, 1, 0, 0, Integer.MAX_VALUE), -13, 3);
        cells(x, 0, 0, 1, 2, 3, 4);
        cells(x, 1, 0, 5, 6);
        Check.dueFault(x, "copy(0, 2, 1, 0, 2)", x.copy(0, 2, 1, 0, 2), 2, 0);
    }
}
