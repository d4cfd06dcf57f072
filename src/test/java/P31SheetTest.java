/** Promise 31: sheet. */
final class P31SheetTest {
    public static void main(String[] args) {
        NutsUp x = new NutsUp();
        for (int k = 0; k < 4; k++) {
            for (int sort = 0; sort < 3; sort++) {
                Check.dueFault(x, "sheet(" + k + ", " + sort + ", 60)", x.sheet(k, sort, 60), 1, 0);
                Check.due("cell 59", x.cell(k, 59, sort), 0);
                Check.due("cell 60", x.cell(k, 60, sort), Check.LOST);
            }
        }
        x.put(0, 0, 7);
        x.put(0, 59, 9);
        Check.due("sheet(0, 2, 60) anew", x.sheet(0, 2, 60), 1);
        Check.due("cell 0 anew", x.cell(0, 0, 2), 0);
        Check.due("cell 59 anew", x.cell(0, 59, 2), 0);
        x.put(0, 3, 5);
        Check.dueFault(x, "sheet(0, 0, -1)", x.sheet(0, 0, -1), -14, 4);
        Check.dueFault(x, "sheet(0, 0, MIN)", x.sheet(0, 0, Integer.MIN_VALUE), -14, 4);
        Check.dueFault(x, "sheet(0, 0, 61)", x.sheet(0, 0, 61), -2, 0);
        Check.dueFault(x, "sheet(0, 3, -1)", x.sheet(0, 3, -1), -2, 0);
        Check.dueFault(x, "sheet(0, -1, 1)", x.sheet(0, -1, 1), -2, 0);
        Check.dueFault(x, "sheet(4, 3, -1)", x.sheet(4, 3, -1), -1, 0);
        Check.dueFault(x, "sheet(-1, 0, 1)", x.sheet(-1, 0, 1), -1, 0);
        Check.due("cell 3 as it was", x.cell(0, 3, 2), 5);
        Check.due("sheet(0, 1, 0)", x.sheet(0, 1, 0), 1);
        Check.dueFault(x, "cell 0 of none", x.cell(0, 0, 1), Check.LOST, 3);
        Check.due("lose(0) of a row of none", x.lose(0), 1);
        x.sheet(1, 0, 3);
        x.put(1, 2, 3);
        x.lose(1);
        x.sheet(1, 0, 3);
        Check.due("cell 2 behind lose", x.cell(1, 2, 0), 0);
        allLengths();
        Check.end();
    }

    /** 0 .. 60 cells of each SORT, all of them 0 at first though there were others ahead. */
    private static void allLengths() {
        for (int n = 0; n <= 60; n++) {
            NutsUp x = new NutsUp();
            int sort = n % 3;
            x.sheet(3, 2, 60);
            for (int i = 0; i < 60; i++) {
                x.put(3, i, -1);
            }
            Check.dueFault(x, "sheet(3, " + sort + ", " + n + ")", x.sheet(3, sort, n), 1, 0);
            for (int i = 0; i < n; i++) {
                Check.due("cell " + i + " of " + n, x.cell(3, i, sort), 0);
            }
            Check.dueFault(x, "cell " + n + " of " + n, x.cell(3, n, sort), Check.LOST, 3);
            Check.dueFault(x, "put(3, " + n + ", 1) of " + n, x.put(3, n, 1), -13, 3);
            Check.due("put(3, " + (n - 1) + ", 1) of " + n, x.put(3, n - 1, 1), n == 0 ? -13 : 1);
        }
    }
}
