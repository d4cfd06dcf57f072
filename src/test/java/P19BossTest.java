/** Promise 19: boss. */
final class P19BossTest {
    public static void main(String[] args) {
        oneIsNeeded();
        severalAreNeeded();
        oneHinders();
        theOneThatMattersMost();
        laterOrSooner();
        theLastOfSix();
        ofSeveralTheFirst();
        leftOutOneByOne("g79l;g28;g11lo;g78;g46;g54lo;g29", "r21;a01;h13;t33;a12", 0, 2691, 3);
        leftOutOneByOne("g33l;g44;g21;g34;g24;g21l;g21lo", "h11;f12;a01;h23;t43", 5, 879, 3);
        for (int g = 0; g < 7; g++) {
            leftOutOneByOne("g11;g34lo;g17;g44;g47l;g39lo;g56lo", "h03;t43;f13;a01;r01;f02", g, 358, 3);
            leftOutOneByOne("g65l;g66;g47lo;g68;g32;g62;g65", "h31;t33;f01;f02;f22;a02", g, 1870, 3);
        }
        refusals();
        Check.end();
    }

    private static void oneIsNeeded() {
        NutsUp x = Check.nuts("g11;g22", "f11;h11");
        Check.due("boss(1, 1, 1)", x.boss(1, 1, 1), 0);
        Check.due("boss(0, 0, 1)", x.boss(0, 0, 1), 1);
        Check.due("boss(1, 0, 1) on top", x.boss(1, 0, 1), -9);
        NutsUp y = Check.nuts("g11;g22", "f12;f13");
        Check.due("boss(1, 1, 1) of too HARD ones", y.boss(1, 1, 1), -9);
        Check.due("boss(1, 1, 2) of one", y.boss(1, 1, 2), 0);
        Check.due("boss(1, 1, 3) where either does it", y.boss(1, 1, 3), -9);
    }

    /** 0 rises past 1 by its HEFT, past 2 by its BULK; without either it never is on top. */
    private static void severalAreNeeded() {
        NutsUp x = Check.nuts("g31;g29;g11", "h81;f21", "f21;h81");
        for (int l = 0; l < 2; l++) {
            x.use(l);
            Check.due("soon(0, 0, 1)", x.soon(0, 0, 1), 1);
            Check.due("boss(0, 0, 1)", x.boss(0, 0, 1), 0);
        }
    }

    /** A CAUSE that holds it: without it SOON is 1, with it NONE. */
    private static void oneHinders() {
        NutsUp x = Check.nuts("g11;g22", "n01;f11;h91");
        Check.due("soon(1, 1, 1)", x.soon(1, 1, 1), -9);
        Check.due("boss(1, 1, 1)", x.boss(1, 1, 1), 0);
        Check.due("boss(0, 0, 1)", x.boss(0, 0, 1), -9);
    }

    private static void theOneThatMattersMost() {
        NutsUp x = Check.nuts("g11l;g29;g31", "t91;f11");
        // 2, 0, 1: f: 0, 2, 1 -> 0, 1, 2; without f it never rises.
        Check.due("soon(2, 4, 1)", x.soon(2, 4, 1), 1);
        Check.due("boss(2, 4, 1)", x.boss(2, 4, 1), 1);
        // 0, 1, 2: t: 1, 0, 2 -> 1, 2, 0: 0 is on top only by t.
        Check.due("soon(0, 0, 1)", x.soon(0, 0, 1), 1);
        Check.due("boss(0, 0, 1)", x.boss(0, 0, 1), 0);
    }

    private static void laterOrSooner() {
        // 1, 2, 0 is held back by t, lifted by f: SOON is 2, without t 1, without f NONE.
        NutsUp x = Check.nuts("g12;g21l;g33", "t11;f11");
        Check.due("soon(2, 3, 1)", x.soon(2, 3, 1), 2);
        Check.due("boss(2, 3, 1), NONE by the last", x.boss(2, 3, 1), 1);
        // 2, 1, 0: SOON is 2, without f 1, else as it is.
        NutsUp y = Check.nuts("g12;g21l;g33", "t21;h11;f21");
        Check.due("soon(1, 5, 1)", y.soon(1, 5, 1), 2);
        Check.due("boss(1, 5, 1), by one SHAKE", y.boss(1, 5, 1), 2);
        // 2, 0, 1: SOON is NONE, without r 1, without a 2, without h NONE: NONE is more than any.
        NutsUp z = Check.nuts("g22;g34lo;g43", "r11;a21;h11");
        Check.due("soon(0, 4, 1)", z.soon(0, 4, 1), -9);
        Check.due("boss(0, 4, 1), from NONE", z.boss(0, 4, 1), 0);
    }

    /** The sixth CAUSE is the only one that does it; the five ahead are not so, or too HARD. */
    private static void theLastOfSix() {
        NutsUp x = Check.nuts("g11;g22", "h91;t91;n91;a01;f13;f11");
        Check.due("soon(1, 1, 1)", x.soon(1, 1, 1), 1);
        Check.due("boss(1, 1, 1)", x.boss(1, 1, 1), 5);
        // At HARD 3 the fifth does what the sixth does: without either it is the same.
        Check.due("boss(1, 1, 3)", x.boss(1, 1, 3), -9);
    }

    /** Two that each hold it alone would be as much; one ahead of the other in the row. */
    private static void ofSeveralTheFirst() {
        // 2, 1, 0: 0 rises past 1 only by the HEFT, past 2 only by the BULK; whichever is first is told.
        NutsUp x = Check.nuts("g31;g29;g11", "a01;n91;h81;f21", "a01;n91;f21;h81");
        for (int l = 0; l < 2; l++) {
            x.use(l);
            Check.due("soon(0, 0, 1)", x.soon(0, 0, 1), 1);
            Check.due("boss(0, 0, 1), the third", x.boss(0, 0, 1), 2);
        }
    }

    /** Beside a LAW of its own for each CAUSE that is left out; SOON is up to 174 there, NONE still counts as more. */
    private static void leftOutOneByOne(String box, String law, int g, int lie, int hard) {
        int soon = Check.nuts(box, law).soon(g, lie, hard);
        String[] causes = law.split(";");
        int boss = -9;
        int most = 0;
        for (int c = 0; c < causes.length; c++) {
            java.util.List<String> others = new java.util.ArrayList<>(java.util.List.of(causes));
            others.remove(c);
            int without = Check.nuts(box, String.join(";", others)).soon(g, lie, hard);
            int by = Math.abs((without == -9 ? 9999 : without) - (soon == -9 ? 9999 : soon));
            boss = by > most ? c : boss;
            most = Math.max(most, by);
        }
        String told = "boss(" + g + ", " + lie + ", " + hard + ") of " + box;
        Check.due(told, Check.nuts(box, law).boss(g, lie, hard), boss);
    }

    private static void refusals() {
        NutsUp x = Check.nuts("g11;g22");
        Check.due("boss(1, 0, 1) without a LAW", x.boss(1, 0, 1), -3);
        Check.due("boss(1, 0, 0) without a LAW", x.boss(1, 0, 0), -2);
        Check.law(x, "f11");
        Check.due("boss(2, 0, 0)", x.boss(2, 0, 0), -1);
        Check.due("boss(-1, 0, 1)", x.boss(-1, 0, 1), -1);
        Check.due("boss(0, 2, 1)", x.boss(0, 2, 1), -1);
        Check.due("boss(0, -1, 1)", x.boss(0, -1, 1), -1);
        Check.due("boss(0, 0, 0)", x.boss(0, 0, 0), -2);
        Check.due("boss(0, 0, 4)", x.boss(0, 0, 4), -2);
        Check.due("boss(0, 0, 1) without a BOX", new NutsUp().boss(0, 0, 1), -1);
    }
}
