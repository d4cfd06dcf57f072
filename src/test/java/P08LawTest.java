/** Promise 8: law. */
final class P08LawTest {
    public static void main(String[] args) {
        texts();
        allBeginnings();
        allCodes();
        codesThatOnlyLookAlike();
        fullOfCauses();
        full();
        cellsFromWithin();
        refusalsAndFaults();
        Check.end();
    }

    private static void text(String text, int due) {
        NutsUp x = new NutsUp();
        Check.dueFault(x, "law \"" + text + "\"", Check.law(x, text), due, 0);
        Check.due("many(2)", x.many(2), due < 0 ? 0 : 1);
    }

    private static void texts() {
        text("f01", 0);
        text("a93", 0);
        text("f11;h22;r33;t41;n52;a63", 0);
        text("", -100);
        text("f", -101);
        text("f1", -102);
        text("f11;", -104);
        text("f11;h2", -106);
        text("g11", -100);
        text("F11", -100);
        text("1", -100);
        text("ff1", -101);
        text("f/1", -101);
        text("f:1", -101);
        text("f10", -102);
        text("f14", -102);
        text("f1;", -102);
        text("f11h", -103);
        text("f11;;", -104);
        text("f11;x", -104);
        text("f11;h24", -106);
        text("f11;f11;f11;f11;f11;f11;", -123);
        text("f11;f11;f11;f11;f11;f11;f11", -123);
        text("f11;f11;f11;f11;f11;f1", -122);
    }

    /** What a TEXT begins with ends too soon, but where it is a TEXT of one CAUSE or more itself. */
    private static void allBeginnings() {
        String whole = "f11;h22;r33;t41;n52;a63";
        for (int n = 0; n <= whole.length(); n++) {
            text(whole.substring(0, n), n % 4 == 3 ? 0 : -100 - n);
        }
    }

    /** Behind each beginning all codes that a byte can be: some go on, with all others it is the place of the fault. */
    private static void allCodes() {
        String five = Check.repeated("a93", 5, ";") + ";";
        behind("", "fhrtna");
        behind("f", "0123456789");
        behind("h0", "123");
        behind("r01", ";");
        behind("t93;", "fhrtna");
        behind("n93;a", "0123456789");
        behind(five, "fhrtna");
        behind(five + "t", "0123456789");
        behind(five + "t4", "123");
        // Here the sixth CAUSE is whole, the ; ahead of a seventh one goes on with no TEXT.
        behind(five + "t41", "");
    }

    private static void behind(String beginning, String goOn) {
        for (int code = Byte.MIN_VALUE; code <= Byte.MAX_VALUE; code++) {
            NutsUp x = new NutsUp();
            boolean goesOn = goOn.indexOf((char) code) >= 0;
            String told = "law \"" + beginning + "\" and " + code + ", then !";
            // ! is no code of any TEXT: where the code goes on, the fault is at the !.
            int[] codes = Check.codes(beginning + ".!");
            codes[beginning.length()] = code;
            Check.row(x, 0, 0, codes);
            int place = beginning.length() + (goesOn ? 1 : 0);
            Check.due(told, x.law(0, 0, 0, codes.length), -100 - place);
            Check.due("many(2)", x.many(2), 0);
        }
    }

    /** Numbers of shorts and ints whose lowest bits are a code's, and those that are one below 0. */
    private static void codesThatOnlyLookAlike() {
        String text = "f12;a93";
        for (int sort = 1; sort < 3; sort++) {
            for (int place = 0; place < text.length(); place++) {
                NutsUp x = new NutsUp();
                Check.row(x, 1, sort, Check.codes(text));
                int code = text.charAt(place);
                for (int other : new int[] {code + 256, code - 256, code + 128, -code, code + 65536, code - 65536}) {
                    x.put(1, place, other);
                    boolean cut = sort == 1 && (other == code + 65536 || other == code - 65536);
                    int due = cut ? x.many(2) : -100 - place;
                    Check.due("law with " + other + " at " + place, x.law(1, sort, 0, text.length()), due);
                }
            }
        }
    }

    /** Four LAWS of six CAUSES each, with the least and the greatest digits. */
    private static void fullOfCauses() {
        NutsUp x = new NutsUp();
        String[] laws = {"f01;h01;r01;t01;n01;a01", "f93;h93;r93;t93;n93;a93", "a02;n12;t22;r32;h42;f52",
            "f61;f72;f83;a61;a72;a83"};
        for (int l = 0; l < 4; l++) {
            Check.due("law " + laws[l], Check.law(x, laws[l]), l);
        }
        for (int l = 0; l < 4; l++) {
            for (int c = 0; c < 6; c++) {
                String cause = laws[l].substring(4 * c, 4 * c + 3);
                Check.due(cause + ": letter", x.ofCause(l, c, 0), "fhrtna".indexOf(cause.charAt(0)));
                Check.due(cause + ": d", x.ofCause(l, c, 1), cause.charAt(1) - '0');
                Check.due(cause + ": HARD", x.ofCause(l, c, 2), cause.charAt(2) - '0');
            }
        }
        Check.due("a fifth one", Check.law(x, "f11"), -4);
        Check.due("ofCause(3, 5, 1)", x.ofCause(3, 5, 1), 8);
    }

    private static void full() {
        NutsUp x = new NutsUp();
        for (int l = 0; l < 4; l++) {
            Check.due("law " + l, Check.law(x, "f" + l + "1"), l);
        }
        Check.dueFault(x, "a fifth law", Check.law(x, "f11"), -4, 0);
        Check.due("a fifth law with a FIRST FAULT", Check.law(x, "f1"), -102);
        Check.due("a fifth law of none", x.law(3, 0, 2, 0), -100);
        Check.dueFault(x, "a fifth law of nothing", x.law(0, 0, 0, 1), -11, 1);
        Check.due("many(2)", x.many(2), 4);
        Check.due("ofCause(3, 0, 1)", x.ofCause(3, 0, 1), 3);
        Check.due("many(5)", x.many(5), 0);
    }

    private static void cellsFromWithin() {
        NutsUp x = new NutsUp();
        Check.row(x, 0, 2, Check.codes("..h32;a01.."));
        Check.due("law(0, 2, 2, 7)", x.law(0, 2, 2, 7), 0);
        Check.due("ofCause(0, 0, 0)", x.ofCause(0, 0, 0), 1);
        Check.due("ofCause(0, 1, 0)", x.ofCause(0, 1, 0), 5);
        Check.due("law(0, 2, 2, 8)", x.law(0, 2, 2, 8), -107);
        Check.due("law(0, 2, 6, 3)", x.law(0, 2, 6, 3), 1);
        Check.due("law(0, 2, 11, 0)", x.law(0, 2, 11, 0), -100);
        x.put(0, 2, 104 + 65536);
        Check.due("law with a code beyond", x.law(0, 2, 2, 7), -100);
    }

    private static void refusalsAndFaults() {
        NutsUp x = new NutsUp();
        Check.row(x, 0, 1, Check.codes("f11"));
        Check.dueFault(x, "law(1, 0, 0, -1)", x.law(1, 0, 0, -1), -11, 1);
        Check.dueFault(x, "law(-1, 3, 0, 3)", x.law(-1, 3, 0, 3), -1, 0);
        Check.dueFault(x, "law(4, 1, 0, 3)", x.law(4, 1, 0, 3), -1, 0);
        Check.dueFault(x, "law(0, 3, 0, -1)", x.law(0, 3, 0, -1), -2, 0);
        Check.dueFault(x, "law(0, -1, 0, 3)", x.law(0, -1, 0, 3), -2, 0);
        Check.dueFault(x, "law(0, 0, 0, -1)", x.law(0, 0, 0, -1), -12, 2);
        Check.dueFault(x, "law(0, 1, 9, -1)", x.law(0, 1, 9, -1), -14, 4);
        Check.dueFault(x, "law(0, 1, -1, 3)", x.law(0, 1, -1, 3), -13, 3);
        Check.dueFault(x, "law(0, 1, 4, 0)", x.law(0, 1, 4, 0), -13, 3);
        Check.dueFault(x, "law(0, 1, 1, 3)", x.law(0, 1, 1, 3), -13, 3);
        Check.dueFault(x, "law(0, 1, 3, MAX)", x.law(0, 1, 3, Integer.MAX_VALUE), -13, 3);
        Check.due("many(2)", x.many(2), 0);
        Check.dueFault(x, "law(0, 1, 0, 3)", x.law(0, 1, 0, 3), 0, 0);
    }
}
