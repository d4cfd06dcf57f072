/** Promise 13: doing. */
final class P13DoingTest {
    public static void main(String[] args) {
        rows();
        edges();
        refusalsAndFaults();
        Check.end();
    }

    private static void rows() {
        NutsUp x = Check.nuts("g11;g22;g33", "f12;h13");
        Check.row(x, 0, 0, 1, 2, 3, 2);
        x.lay(5);
        Check.dueFault(x, "doing(0, 0, 0, 1)", x.doing(0, 0, 0, 1), 0, 0);
        Check.due("lie()", x.lie(), 5);
        Check.due("doing(0, 0, 1, 1)", x.doing(0, 0, 1, 1), 2);
        Check.due("lie()", x.lie(), 2);
        x.lay(5);
        Check.due("doing(0, 0, 0, 4)", x.doing(0, 0, 0, 4), 5);
        Check.due("lie()", x.lie(), 0);
        Check.due("many(4)", x.many(4), 6);
        Check.due("doing(0, 0, 4, 0)", x.doing(0, 0, 4, 0), 0);
        Check.due("many(4)", x.many(4), 6);
        int[] sixty = new int[60];
        java.util.Arrays.fill(sixty, 3);
        Check.row(x, 1, 2, sixty);
        Check.due("doing of 60", x.doing(1, 2, 0, 60) >= 60 ? 1 : 0, 1);
        Check.due("many(4)", x.many(4), 66);
    }

    /** By f03 two alike CHANGE by each SHAKE of HARD 3, by no other: so the changes tell which cells were taken. */
    private static void edges() {
        NutsUp x = Check.nuts("g11;g11", "f03");
        int[] sixty = new int[60];
        java.util.Arrays.fill(sixty, 1);
        sixty[0] = 3;
        sixty[59] = 3;
        for (int sort = 0; sort < 3; sort++) {
            Check.row(x, sort, sort, sixty);
            Check.due("all 60", x.doing(sort, sort, 0, 60), 2);
            Check.due("the first", x.doing(sort, sort, 0, 1), 1);
            Check.due("the last", x.doing(sort, sort, 59, 1), 1);
            Check.due("all but these", x.doing(sort, sort, 1, 58), 0);
            Check.due("none, behind the last", x.doing(sort, sort, 60, 0), 0);
            Check.dueFault(x, "one behind the last", x.doing(sort, sort, 60, 1), -13, 3);
            Check.dueFault(x, "none, one beyond", x.doing(sort, sort, 61, 0), -13, 3);
            Check.due("many(4)", x.many(4), 120 * (sort + 1));
        }
        x.put(2, 59, 4);
        Check.due("up to one that is no HARD", x.doing(2, 2, 0, 59), 1);
        Check.due("lie()", x.lie(), 1);
        Check.dueFault(x, "with it", x.doing(2, 2, 0, 60), -2, 0);
        Check.due("lie(), as none of it was done", x.lie(), 1);
        Check.due("many(4)", x.many(4), 419);
        x.sheet(3, 0, 0);
        Check.dueFault(x, "of a row of none", x.doing(3, 0, 0, 0), 0, 0);
        Check.dueFault(x, "of a row of none, from 1 on", x.doing(3, 0, 1, 0), -13, 3);
    }

    private static void refusalsAndFaults() {
        NutsUp x = new NutsUp();
        Check.row(x, 0, 1, 1, 2, 3, 0, 4);
        Check.dueFault(x, "doing(1, 0, 0, 1) of nothing", x.doing(1, 0, 0, 1), -11, 1);
        Check.dueFault(x, "doing(0, 1, 0, 3) without a BOX, a LAW", x.doing(0, 1, 0, 3), -3, 0);
        Check.dueFault(x, "doing(0, 1, 0, 4) without a BOX, a LAW", x.doing(0, 1, 0, 4), -2, 0);
        Check.law(x, "f11");
        Check.due("doing(0, 1, 0, 0) without a BOX", x.doing(0, 1, 0, 0), -3);
        Check.box(x, "g22;g11");
        Check.dueFault(x, "doing(-1, 3, 0, 1)", x.doing(-1, 3, 0, 1), -1, 0);
        Check.dueFault(x, "doing(4, 1, 0, 1)", x.doing(4, 1, 0, 1), -1, 0);
        Check.dueFault(x, "doing(0, 3, 0, -1)", x.doing(0, 3, 0, -1), -2, 0);
        Check.dueFault(x, "doing(0, 0, 0, -1)", x.doing(0, 0, 0, -1), -12, 2);
        Check.dueFault(x, "doing(1, 0, 0, -1)", x.doing(1, 0, 0, -1), -11, 1);
        Check.dueFault(x, "doing(0, 1, -1, -1)", x.doing(0, 1, -1, -1), -14, 4);
        Check.dueFault(x, "doing(0, 1, -1, 0)", x.doing(0, 1, -1, 0), -13, 3);
        Check.dueFault(x, "doing(0, 1, 6, 0)", x.doing(0, 1, 6, 0), -13, 3);
        Check.dueFault(x, "doing(0, 1, 3, 3)", x.doing(0, 1, 3, 3), -13, 3);
        Check.dueFault(x, "doing(0, 1, 2, 2)", x.doing(0, 1, 2, 2), -2, 0);
        Check.dueFault(x, "doing(0, 1, 4, 1)", x.doing(0, 1, 4, 1), -2, 0);
        Check.due("lie() as it was", x.lie(), 0);
        Check.due("many(4)", x.many(4), 0);
        Check.dueFault(x, "doing(0, 1, 0, 3)", x.doing(0, 1, 0, 3), 1, 0);
        NutsUp y = Check.nuts("g22;g11");
        Check.row(y, 0, 1, 1);
        Check.dueFault(y, "doing(0, 1, 0, 1) without a LAW", y.doing(0, 1, 0, 1), -3, 0);
    }
}
