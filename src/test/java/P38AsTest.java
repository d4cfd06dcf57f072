/** Promise 38: as. */
final class P38AsTest {
    public static void main(String[] args) {
        Check.due("as(0, 0) without a BOX", new NutsUp().as(0, 0), -1);
        NutsUp x = Check.nuts("g52;g34l;g93lo");
        for (int g = 0; g < 3; g++) {
            for (int kind = 0; kind < 3; kind++) {
                boolean is = kind <= g;
                Check.dueFault(x, "as(" + g + ", " + kind + ")", x.as(g, kind), is ? 1 : -12, is ? 0 : 2);
            }
        }
        x.as(0, 2);
        Check.dueFault(x, "as(0, 3)", x.as(0, 3), -2, 0);
        x.as(0, 2);
        Check.dueFault(x, "as(0, -1)", x.as(0, -1), -2, 0);
        x.as(0, 2);
        Check.dueFault(x, "as(3, 3)", x.as(3, 3), -1, 0);
        x.as(0, 2);
        Check.dueFault(x, "as(-1, 0)", x.as(-1, 0), -1, 0);
        Check.due("trace()", x.trace(), 0);
        Check.end();
    }
}
