/** Promise 8: law. */
final class P08LawTest {
    public static void main(String[] args) {
        texts();
        full();
        cellsFromWithin();
        refusalsAndFaults();
        Check.end();
    }

    private static void text(String text, int due) {
        NutsUp x = new NutsUp();
        Check.dueFault(x, "law \"" + text + "\"", Check.law(x, text), due, 0);
        Check.due("many(2)", x.many(2), due < 0 ? 0 : 1);
    }

    private static void texts() {
        text("f01", 0);
        text("a93", 0);
        text("f11;h22;r33;t41;n52;a63", 0);
        text("", -100);
        text("f", -101);
        text("f1", -102);
        text("f11;", -104);
        text("f11;h2", -106);
        text("g11", -100);
        text("F11", -100);
        text("1", -100);
        text("ff1", -101);
        text("f/1", -101);
        text("f:1", -101);
        text("f10", -102);
        text("f14", -102);
        text("f1;", -102);
        text("f11h", -103);
        text("f11;;", -104);
        text("f11;x", -104);
        text("f11;h24", -106);
        text("f11;f11;f11;f11;f11;f11;", -123);
        text("f11;f11;f11;f11;f11;f11;f11", -123);
        text("f11;f11;f11;f11;f11;f1", -122);
    }

    private static void full() {
        NutsUp x = new NutsUp();
        for (int l = 0; l < 4; l++) {
            Check.due("law " + l, Check.law(x, "f" + l + "1"), l);
        }
        Check.dueFault(x, "a fifth law", Check.law(x, "f11"), -4, 0);
        Check.due("a fifth law with a FIRST FAULT", Check.law(x, "f1"), -102);
        Check.dueFault(x, "a fifth law of nothing", x.law(0, 0, 0, 1), -11, 1);
        Check.due("many(2)", x.many(2), 4);
        Check.due("ofCause(3, 0, 1)", x.ofCause(3, 0, 1), 3);
        Check.due("many(5)", x.many(5), 0);
    }

    private static void cellsFromWithin() {
        NutsUp x = new NutsUp();
        Check.row(x, 0, 2, Check.codes("..h32;a01.."));
        Check.due("law(0, 2, 2, 7)", x.law(0, 2, 2, 7), 0);
        Check.due("ofCause(0, 0, 0)", x.ofCause(0, 0, 0), 1);
        Check.due("ofCause(0, 1, 0)", x.ofCause(0, 1, 0), 5);
        Check.due("law(0, 2, 2, 8)", x.law(0, 2, 2, 8), -107);
        Check.due("law(0, 2, 6, 3)", x.law(0, 2, 6, 3), 1);
        Check.due("law(0, 2, 11, 0)", x.law(0, 2, 11, 0), -100);
        x.put(0, 2, 104 + 65536);
        Check.due("law with a code beyond", x.law(0, 2, 2, 7), -100);
    }

    private static void refusalsAndFaults() {
        NutsUp x = new NutsUp();
        Check.row(x, 0, 1, Check.codes("f11"));
        Check.dueFault(x, "law(1, 0, 0, -1)", x.law(1, 0, 0, -1), -11, 1);
        Check.dueFault(x, "law(-1, 3, 0, 3)", x.law(-1, 3, 0, 3), -1, 0);
        Check.dueFault(x, "law(4, 1, 0, 3)", x.law(4, 1, 0, 3), -1, 0);
        Check.dueFault(x, "law(0, 3, 0, -1)", x.law(0, 3, 0, -1), -2, 0);
        Check.dueFault(x, "law(0, -1, 0, 3)", x.law(0, -1, 0, 3), -2, 0);
        Check.dueFault(x, "law(0, 0, 0, -1)", x.law(0, 0, 0, -1), -12, 2);
        Check.dueFault(x, "law(0, 1, 9, -1)", x.law(0, 1, 9, -1), -14, 4);
        Check.dueFault(x, "law(0, 1, -1, 3)", x.law(0, 1, -1, 3), -13, 3);
        Check.dueFault(x, "law(0, 1, 4, 0)", x.law(0, 1, 4, 0), -13, 3);
        Check.dueFault(x, "law(0, 1, 1, 3)", x.law(0, 1, 1, 3), -13, 3);
        Check.dueFault(x, "law(0, 1, 3, MAX)", x.law(0, 1, 3, Integer.MAX_VALUE), -13, 3);
        Check.due("many(2)", x.many(2), 0);
        Check.dueFault(x, "law(0, 1, 0, 3)", x.law(0, 1, 0, 3), 0, 0);
    }
}
