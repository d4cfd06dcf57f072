/** Promise 34: cell. */
final class P34CellTest {
    public static void main(String[] args) {
        NutsUp x = new NutsUp();
        Check.row(x, 0, 0, 5, -6);
        Check.row(x, 1, 1, 7);
        long lost = Check.LOST;
        Check.dueFault(x, "cell(0, 0, 0)", x.cell(0, 0, 0), 5, 0);
        Check.dueFault(x, "cell(0, 1, 0)", x.cell(0, 1, 0), -6, 0);
        Check.dueFault(x, "cell(1, 0, 1)", x.cell(1, 0, 1), 7, 0);
        Check.dueFault(x, "cell(0, 2, 0)", x.cell(0, 2, 0), lost, 3);
        Check.dueFault(x, "cell(0, -1, 0)", x.cell(0, -1, 0), lost, 3);
        Check.dueFault(x, "cell(0, -1, 1)", x.cell(0, -1, 1), lost, 2);
        Check.dueFault(x, "cell(1, 9, 0)", x.cell(1, 9, 0), lost, 2);
        Check.dueFault(x, "cell(1, 0, 2)", x.cell(1, 0, 2), lost, 2);
        Check.dueFault(x, "cell(2, 9, 0)", x.cell(2, 9, 0), lost, 1);
        Check.dueFault(x, "cell(2, 0, 3)", x.cell(2, 0, 3), lost, 0);
        x.put(2, 0, 0);
        Check.dueFault(x, "cell(0, 0, -1)", x.cell(0, 0, -1), lost, 0);
        x.put(2, 0, 0);
        Check.dueFault(x, "cell(4, 0, 0)", x.cell(4, 0, 0), lost, 0);
        x.put(2, 0, 0);
        Check.dueFault(x, "cell(-1, 0, 0)", x.cell(-1, 0, 0), lost, 0);
        edges();
        Check.end();
    }

    /** The first and the last cell, the least and the greatest of each SORT; beside them there is none. */
    private static void edges() {
        int[] least = {Byte.MIN_VALUE, Short.MIN_VALUE, Integer.MIN_VALUE};
        int[] greatest = {Byte.MAX_VALUE, Short.MAX_VALUE, Integer.MAX_VALUE};
        for (int sort = 0; sort < 3; sort++) {
            NutsUp x = new NutsUp();
            x.sheet(sort, sort, 60);
            x.put(sort, 0, least[sort]);
            x.put(sort, 59, greatest[sort]);
            Check.dueFault(x, "the first", x.cell(sort, 0, sort), least[sort], 0);
            Check.dueFault(x, "the last", x.cell(sort, 59, sort), greatest[sort], 0);
            Check.dueFault(x, "one beyond", x.cell(sort, 60, sort), Check.LOST, 3);
            Check.dueFault(x, "one ahead", x.cell(sort, -1, sort), Check.LOST, 3);
            Check.dueFault(x, "MIN", x.cell(sort, Integer.MIN_VALUE, sort), Check.LOST, 3);
            Check.dueFault(x, "MAX", x.cell(sort, Integer.MAX_VALUE, sort), Check.LOST, 3);
            x.put(sort, 0, least[sort] - 1);
            x.put(sort, 59, greatest[sort] + 1);
            Check.due("one below the least", x.cell(sort, 0, sort), greatest[sort]);
            Check.due("one above the greatest", x.cell(sort, 59, sort), least[sort]);
        }
    }
}
