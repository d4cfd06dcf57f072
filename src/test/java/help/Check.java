/** Counts what is not due; puts boxes, laws and rows into an object. */
final class Check {
    static final long LOST = Long.MIN_VALUE;
    private static final int TEXT_SHEET = 3;
    private static int wrong;

    private Check() {
    }

    static void due(String call, long got, long want) {
        if (got != want) {
            wrong++;
            System.out.println(call + " answered " + got + ", due is " + want);
        }
    }

    /** The answer that is due, and the FAULT that is told behind it. */
    static void dueFault(NutsUp x, String call, long got, long want, int fault) {
        due(call, got, want);
        due("fault() behind " + call, x.fault(), fault);
    }

    static void end() {
        if (wrong != 0) {
            System.out.println(wrong + " answers are not as due");
            System.exit(1);
        }
    }

    static int[] codes(String text) {
        int[] codes = new int[text.length()];
        for (int i = 0; i < codes.length; i++) {
            codes[i] = text.charAt(i);
        }
        return codes;
    }

    static void row(NutsUp x, int k, int sort, int... cells) {
        x.sheet(k, sort, cells.length);
        for (int i = 0; i < cells.length; i++) {
            x.put(k, i, cells[i]);
        }
    }

    static int box(NutsUp x, String text) {
        row(x, TEXT_SHEET, 0, codes(text));
        return x.box(TEXT_SHEET, 0, 0, text.length());
    }

    static int law(NutsUp x, String text) {
        row(x, TEXT_SHEET, 0, codes(text));
        return x.law(TEXT_SHEET, 0, 0, text.length());
    }

    /** A new object with a box and laws; SHEET 3 has nothing. */
    static NutsUp nuts(String box, String... laws) {
        NutsUp x = new NutsUp();
        due("box " + box, box(x, box), box.split(";").length);
        for (int l = 0; l < laws.length; l++) {
            due("law " + laws[l], law(x, laws[l]), l);
        }
        x.lose(TEXT_SHEET);
        return x;
    }

    static String repeated(String part, int times, String between) {
        StringBuilder text = new StringBuilder(part);
        for (int i = 1; i < times; i++) {
            text.append(between).append(part);
        }
        return text.toString();
    }
}
