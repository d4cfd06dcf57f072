/** Promise 2: box. */
final class P02BoxTest {
    public static void main(String[] args) {
        texts();
        longest();
        allBeginnings();
        allCodes();
        codesThatOnlyLookAlike();
        cellsFromWithin();
        endsAheadOfMore();
        codesOfInts();
        makesAllAnew();
        changesNothingIfNotTaken();
        refusalsAndFaults();
        greaterAndLesserBoxes();
        Check.end();
    }

    private static void text(String text, int due) {
        NutsUp x = new NutsUp();
        Check.dueFault(x, "box \"" + text + "\"", Check.box(x, text), due, 0);
        Check.due("many(0)", x.many(0), due > 0 ? due : 0);
    }

    private static void texts() {
        text("g11;g22", 2);
        text("g99;g99", 2);
        text("g11l;g22lo;g33", 3);
        text("", -100);
        text("g", -101);
        text("g1", -102);
        text("g11", -103);
        text("g11l", -104);
        text("g11lo", -105);
        text("g11;", -104);
        text("g11;g22;", -108);
        text("g11;g2", -106);
        text("x", -100);
        text("l11;g22", -100);
        text(";g11;g22", -100);
        text("g01;g22", -101);
        text("gg1;g22", -101);
        text("g:1;g22", -101);
        text("g10;g22", -102);
        text("g1:;g22", -102);
        text("g1/;g22", -102);
        text("g11o;g22", -103);
        text("g111;g22", -103);
        text("g11g22", -103);
        text("g11ll;g22", -104);
        text("g11l1;g22", -104);
        text("g11lol;g22", -105);
        text("g11loo;g22", -105);
        text("g11lo1;g22", -105);
        text("g11;;g22", -104);
        text("g11;g22;g33;g44;g55;g66;g77", 7);
        text("g11;g22;g33;g44;g55;g66;g77;", -127);
        text("g11;g22;g33;g44;g55;g66;g77;g88", -127);
        text("g11;g22;g33;g44;g55;g66;g77l;", -128);
    }

    private static void longest() {
        String seven = Check.repeated("g91lo", 7, ";");
        text(seven, 7);
        text(seven + ";", -141);
        text(seven + "l", -141);
    }

    /** What a TEXT begins with ends too soon, but where it is a TEXT of two GRAINS or more itself. */
    private static void allBeginnings() {
        String[] wholes = {"g11;g22;g33;g44;g55;g66;g77", "g11lo;g22l;g33;g44lo;g55lo;g66l;g77lo"};
        for (String whole : wholes) {
            for (int n = 0; n <= whole.length(); n++) {
                String beginning = whole.substring(0, n);
                String[] grains = beginning.split(";", -1);
                boolean isText = grains.length > 1 && grains[grains.length - 1].matches("g[1-9][1-9](l|lo)?");
                text(beginning, isText ? grains.length : -100 - n);
            }
        }
    }

    /** Behind each beginning all codes that a byte can be: some go on, with all others it is the place of the fault. */
    private static void allCodes() {
        String six = Check.repeated("g91lo", 6, ";") + ";";
        behind("", "g");
        behind("g", "123456789");
        behind("g5", "123456789");
        behind("g55", "l;");
        behind("g55l", "o;");
        behind("g55lo", ";");
        behind("g55;", "g");
        behind("g55l;", "g");
        behind("g55lo;g", "123456789");
        behind(six, "g");
        behind(six + "g", "123456789");
        behind(six + "g1", "123456789");
        // Here the seventh GRAIN is whole, the ; ahead of an eighth one goes on with no TEXT.
        behind(six + "g11", "l");
        behind(six + "g11l", "o");
        behind(six + "g11lo", "");
    }

    private static void behind(String beginning, String goOn) {
        for (int code = Byte.MIN_VALUE; code <= Byte.MAX_VALUE; code++) {
            NutsUp x = new NutsUp();
            boolean goesOn = goOn.indexOf((char) code) >= 0;
            String told = "box \"" + beginning + "\" and " + code + ", then !";
            // ! is no code of any TEXT: where the code goes on, the fault is at the !.
            int[] codes = Check.codes(beginning + ".!");
            codes[beginning.length()] = code;
            Check.row(x, 0, 0, codes);
            int place = beginning.length() + (goesOn ? 1 : 0);
            Check.due(told, x.box(0, 0, 0, codes.length), -100 - place);
            Check.due("many(0)", x.many(0), 0);
        }
    }

    /** Numbers of shorts and ints whose lowest bits are a code's, and those that are one below 0. */
    private static void codesThatOnlyLookAlike() {
        String text = "g12lo;g34";
        for (int sort = 1; sort < 3; sort++) {
            for (int place = 0; place < text.length(); place++) {
                NutsUp x = new NutsUp();
                Check.row(x, 1, sort, Check.codes(text));
                int code = text.charAt(place);
                for (int other : new int[] {code + 256, code - 256, code + 128, -code, code + 65536, code - 65536}) {
                    x.put(1, place, other);
                    boolean cut = sort == 1 && (other == code + 65536 || other == code - 65536);
                    int due = cut ? 2 : -100 - place;
                    Check.due("box with " + other + " at " + place, x.box(1, sort, 0, text.length()), due);
                }
            }
        }
    }

    private static void cellsFromWithin() {
        NutsUp x = new NutsUp();
        Check.row(x, 1, 1, Check.codes("xxg11;g22yy"));
        Check.due("box(1, 1, 2, 7)", x.box(1, 1, 2, 7), 2);
        Check.due("box(1, 1, 2, 8)", x.box(1, 1, 2, 8), -107);
        Check.due("box(1, 1, 1, 8)", x.box(1, 1, 1, 8), -100);
        Check.due("box(1, 1, 11, 0)", x.box(1, 1, 11, 0), -100);
        Check.due("box(1, 1, 6, 3)", x.box(1, 1, 6, 3), -103);
    }

    /** What is behind the n cells is no part of the TEXT. */
    private static void endsAheadOfMore() {
        NutsUp x = new NutsUp();
        Check.row(x, 0, 0, Check.codes("g11;g22lo"));
        for (int kind = 0; kind < 3; kind++) {
            Check.due("box(0, 0, 0, " + (7 + kind) + ")", x.box(0, 0, 0, 7 + kind), 2);
            Check.due("ofGrain(1, 0)", x.ofGrain(1, 0), kind);
        }
    }

    private static void codesOfInts() {
        NutsUp x = new NutsUp();
        Check.row(x, 0, 2, 103 + 65536, 49, 49, 59, 103, 50, 50);
        Check.due("box with a code beyond", x.box(0, 2, 0, 7), -100);
        x.put(0, 0, 103);
        x.put(0, 1, 49 - 256);
        Check.due("box with a code below", x.box(0, 2, 0, 7), -101);
        x.put(0, 1, 49);
        Check.due("box of ints", x.box(0, 2, 0, 7), 2);
        Check.row(x, 0, 0, 103 + 256, 49, 49, 59, 103, 50, 50);
        Check.due("box of bytes that were cut", x.box(0, 0, 0, 7), 2);
    }

    private static void makesAllAnew() {
        NutsUp x = Check.nuts("g11;g22;g33", "f11", "h11");
        x.use(1);
        x.lay(4);
        x.shake(1, 3);
        x.reading(0, 0);
        x.tell(0);
        int trace = x.trace();
        Check.row(x, 2, 1, 7);
        Check.due("box anew", Check.box(x, "g44;g55;g66"), 3);
        Check.due("lie()", x.lie(), 0);
        Check.due("many(3)", x.many(3), 0);
        Check.due("many(4)", x.many(4), 0);
        Check.due("many(2)", x.many(2), 2);
        Check.due("many(5)", x.many(5), 1);
        Check.due("trace()", x.trace(), trace);
        Check.due("cell(2, 0, 1)", x.cell(2, 0, 1), 7);
        Check.due("ofGrain(0, 1)", x.ofGrain(0, 1), 4);
    }

    private static void changesNothingIfNotTaken() {
        NutsUp x = Check.nuts("g11;g22;g33", "f11");
        x.lay(4);
        x.reading(0, 0);
        x.shake(1, 1);
        int lie = x.lie();
        Check.due("box that is not taken", Check.box(x, "g44;g55;g66;"), -112);
        Check.due("lie()", x.lie(), lie);
        Check.due("many(0)", x.many(0), 3);
        Check.due("many(3)", x.many(3), 1);
        Check.due("many(4)", x.many(4), 1);
        Check.due("ofGrain(0, 1)", x.ofGrain(0, 1), 1);
    }

    private static void refusalsAndFaults() {
        NutsUp x = new NutsUp();
        Check.row(x, 0, 0, Check.codes("g11;g22"));
        Check.dueFault(x, "box(1, 0, 0, -1)", x.box(1, 0, 0, -1), -11, 1);
        Check.dueFault(x, "box(-1, 3, 0, 7)", x.box(-1, 3, 0, 7), -1, 0);
        Check.dueFault(x, "box(4, 0, 0, 7)", x.box(4, 0, 0, 7), -1, 0);
        Check.dueFault(x, "box(0, -1, 0, 7)", x.box(0, -1, 0, 7), -2, 0);
        Check.dueFault(x, "box(0, 3, 0, -1)", x.box(0, 3, 0, -1), -2, 0);
        Check.dueFault(x, "box(1, 3, 0, 7)", x.box(1, 3, 0, 7), -2, 0);
        Check.dueFault(x, "box(0, 1, 0, -1)", x.box(0, 1, 0, -1), -12, 2);
        Check.dueFault(x, "box(0, 2, 99, 7)", x.box(0, 2, 99, 7), -12, 2);
        Check.dueFault(x, "box(1, 2, 99, 7)", x.box(1, 2, 99, 7), -11, 1);
        Check.dueFault(x, "box(0, 0, -1, -1)", x.box(0, 0, -1, -1), -14, 4);
        Check.dueFault(x, "box(0, 0, 0, MIN)", x.box(0, 0, 0, Integer.MIN_VALUE), -14, 4);
        Check.dueFault(x, "box(0, 0, -1, 0)", x.box(0, 0, -1, 0), -13, 3);
        Check.dueFault(x, "box(0, 0, 8, 0)", x.box(0, 0, 8, 0), -13, 3);
        Check.dueFault(x, "box(0, 0, 7, 0)", x.box(0, 0, 7, 0), -100, 0);
        Check.dueFault(x, "box(0, 0, 0, 8)", x.box(0, 0, 0, 8), -13, 3);
        Check.dueFault(x, "box(0, 0, 1, MAX)", x.box(0, 0, 1, Integer.MAX_VALUE), -13, 3);
        Check.dueFault(x, "box(0, 0, MAX, MAX)", x.box(0, 0, Integer.MAX_VALUE, Integer.MAX_VALUE), -13, 3);
        Check.due("many(0)", x.many(0), 0);
        Check.dueFault(x, "box(0, 0, 0, 7)", x.box(0, 0, 0, 7), 2, 0);
    }

    private static void greaterAndLesserBoxes() {
        NutsUp x = Check.nuts("g11;g22;g33;g44", "f11");
        Check.due("next(23, 1)", x.next(23, 1), 13);
        Check.box(x, "g11;g22");
        Check.due("next(1, 1) of 2", x.next(1, 1), 0);
        Check.box(x, "g22;g11");
        Check.due("next(1, 1) of 2, the other way about", x.next(1, 1), 1);
        Check.due("next(0, 1) of 2, the other way about", x.next(0, 1), 1);
        Check.box(x, "g11;g22;g33;g44");
        Check.due("next(23, 1) of 4 again", x.next(23, 1), 13);
        Check.due("of(23, 0)", x.of(23, 0), 3);
        Check.box(x, "g33;g11;g22");
        Check.due("next(0, 1) of 3", x.next(0, 1), 3);
        Check.box(x, "g11;g22;g33");
        Check.due("next(0, 1) of 3 others", x.next(0, 1), 0);
        String[] texts = {"g11;g22", "g11;g22;g33", "g11;g22;g33;g44", "g11;g22;g33;g44;g55"};
        for (String before : texts) {
            for (String text : texts) {
                NutsUp y = Check.nuts(before, "f11");
                y.bare(1);
                Check.box(y, text);
                rows(y);
            }
        }
    }

    /** LIES are in the order of rows; each GRAIN is in each row once. */
    private static void rows(NutsUp x) {
        int before = -1;
        int grains = x.many(0);
        int lies = x.many(1);
        // Of the 120 LIES of five GRAINS every second, for all would be too many calls.
        for (int lie = 0; lie < lies; lie += lies > 60 ? 2 : 1) {
            int row = 0;
            int set = 0;
            for (int p = 0; p < grains; p++) {
                int g = x.of(lie, p);
                row = 10 * row + g;
                set |= 1 << g;
            }
            Check.due("LIE " + lie + " has all", set, (1 << grains) - 1);
            Check.due("LIE " + lie + " is behind the one ahead", row > before ? 1 : 0, 1);
            before = row;
        }
    }
}
