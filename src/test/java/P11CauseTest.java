/** Promise 11: cause. */
final class P11CauseTest {
    public static void main(String[] args) {
        falls();
        sinks();
        rises();
        tilts();
        staysByPlace();
        staysByHeft();
        placesOfSeven();
        byHard();
        firstThatIsSo();
        refusals();
        Check.end();
    }

    private static void rules(NutsUp x, int g, int h, int place, int hard, int due) {
        Check.due("cause(" + g + ", " + h + ", " + place + ", " + hard + ")", x.cause(g, h, place, hard), due);
    }

    /** For each d whether it rules; at HARD 1 and 3, at the lowest and the highest place. */
    private static void byDigit(String box, char letter, int g, int h, String digits) {
        for (char d = '0'; d <= '9'; d++) {
            NutsUp x = Check.nuts(box, letter + "" + d + "1");
            int due = digits.indexOf(d) >= 0 ? 0 : -9;
            Check.due(box + " " + letter + d + ": cause", x.cause(g, h, 0, 1), due);
            Check.due(box + " " + letter + d + ": cause, HARD 3", x.cause(g, h, x.many(0) - 2, 3), due);
        }
    }

    private static void falls() {
        byDigit("g51;g29", 'f', 0, 1, "0123");
        byDigit("g51;g29", 'f', 1, 0, "");
        byDigit("g51;g51", 'f', 0, 1, "0");
        byDigit("g51l;g41", 'f', 0, 1, "0");
        byDigit("g51;g41l", 'f', 0, 1, "012");
        byDigit("g91;g11l", 'f', 0, 1, "0123456789");
    }

    private static void sinks() {
        byDigit("g52;g25", 'h', 0, 1, "0123");
        byDigit("g52;g25", 'h', 1, 0, "");
        byDigit("g52;g22", 'h', 0, 1, "");
        byDigit("g52;g23", 'h', 0, 1, "01");
        byDigit("g52;g22lo", 'h', 0, 1, "012");
        byDigit("g52lo;g25", 'h', 0, 1, "01");
        byDigit("g52l;g25l", 'h', 0, 1, "0123");
        byDigit("g51;g29lo", 'h', 0, 1, "0123456789");
    }

    private static void rises() {
        byDigit("g45;g34", 'r', 0, 1, "01234");
        byDigit("g45;g35", 'r', 0, 1, "01234");
        byDigit("g44;g35", 'r', 0, 1, "");
        byDigit("g45;g45", 'r', 0, 1, "");
        byDigit("g55l;g35", 'r', 0, 1, "01234");
        byDigit("g45;g43lo", 'r', 0, 1, "01234");
        byDigit("g44;g33lo", 'r', 0, 1, "");
        byDigit("g99;g11", 'r', 0, 1, "0123456789");
    }

    private static void tilts() {
        byDigit("g11l;g99", 't', 0, 1, "123456789");
        byDigit("g11lo;g99", 't', 0, 1, "123456789");
        byDigit("g11;g99", 't', 0, 1, "");
        byDigit("g11l;g99l", 't', 0, 1, "");
        byDigit("g11l;g99lo", 't', 0, 1, "");
        byDigit("g11;g99l", 't', 0, 1, "");
        NutsUp x = Check.nuts("g11l;g22;g33;g44", "t21");
        rules(x, 0, 1, 0, 1, 0);
        rules(x, 0, 1, 1, 1, 0);
        rules(x, 0, 1, 2, 1, -9);
    }

    private static void staysByPlace() {
        NutsUp x = Check.nuts("g11;g22;g33;g44", "n11", "n01", "n31");
        rules(x, 0, 1, 0, 1, -9);
        rules(x, 0, 1, 1, 1, 0);
        rules(x, 0, 1, 2, 1, 0);
        x.use(1);
        rules(x, 0, 1, 0, 1, 0);
        x.use(2);
        rules(x, 0, 1, 2, 1, -9);
    }

    private static void staysByHeft() {
        byDigit("g14;g17", 'a', 0, 1, "456789");
        byDigit("g14;g17", 'a', 1, 0, "456789");
        byDigit("g14;g14", 'a', 0, 1, "123456789");
        byDigit("g14lo;g16", 'a', 0, 1, "123456789");
        byDigit("g11;g18lo", 'a', 0, 1, "");
    }

    /** t and n by each d, at each PLACE that is not the top: 0 is the least, 5 the greatest. */
    private static void placesOfSeven() {
        for (int d = 0; d <= 9; d++) {
            NutsUp x = Check.nuts("g11l;g22;g33;g44;g55;g66;g77", "t" + d + "1", "n" + d + "1");
            for (int place = 0; place <= 5; place++) {
                x.use(0);
                rules(x, 0, 1, place, 1, place < d ? 0 : -9);
                x.use(1);
                rules(x, 0, 1, place, 1, place >= d ? 0 : -9);
            }
            rules(x, 0, 1, 6, 1, -2);
        }
    }

    /** A CAUSE rules from its own HARD on. */
    private static void byHard() {
        for (char letter : "fhrtna".toCharArray()) {
            for (int least = 1; least <= 3; least++) {
                // By f, r, t the greater and LONG one below rules; by h the heavier one above.
                String law = letter + (letter == 't' ? "9" : "0") + least;
                NutsUp x = Check.nuts(letter == 'h' ? "g91l;g29" : "g92l;g12", law);
                NutsUp y = Check.nuts("g12;g12", "a1" + least);
                for (int hard = 1; hard <= 3; hard++) {
                    rules(x, 0, 1, 0, hard, letter != 'a' && hard >= least ? 0 : -9);
                    rules(y, 0, 1, 0, hard, hard >= least ? 0 : -9);
                }
            }
        }
    }

    private static void firstThatIsSo() {
        NutsUp x = Check.nuts("g52;g25;g33l", "f13;h32;a91");
        rules(x, 0, 1, 0, 1, 2);
        rules(x, 0, 1, 0, 2, 1);
        rules(x, 0, 1, 0, 3, 0);
        rules(x, 1, 0, 0, 3, 2);
        rules(x, 0, 2, 1, 3, 0);
        rules(x, 0, 2, 1, 2, 2);
        NutsUp y = Check.nuts("g52;g25", "n12;f11");
        rules(y, 0, 1, 0, 3, 1);
    }

    private static void refusals() {
        NutsUp x = new NutsUp();
        rules(x, 0, 1, 0, 1, -1);
        x = Check.nuts("g11;g22;g33");
        rules(x, 0, 1, 0, 1, -3);
        rules(x, 0, 1, 2, 1, -2);
        rules(x, 0, 3, 2, 0, -1);
        rules(x, 3, 3, 0, 1, -1);
        rules(x, -1, 0, 0, 1, -1);
        rules(x, 0, -1, 9, 1, -1);
        Check.law(x, "n01");
        rules(x, 1, 1, 0, 1, -2);
        rules(x, 0, 1, -1, 1, -2);
        rules(x, 0, 1, 2, 1, -2);
        rules(x, 0, 1, 1, 0, -2);
        rules(x, 0, 1, 1, 4, -2);
        rules(x, 0, 1, Integer.MAX_VALUE, 1, -2);
        rules(x, 0, 1, 1, 3, 0);
    }
}
