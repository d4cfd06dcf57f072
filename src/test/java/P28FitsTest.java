/** Promise 28: fits. */
final class P28FitsTest {
    private static final int ALL = Integer.MAX_VALUE;

    public static void main(String[] args) {
        NutsUp x = Check.nuts("g11;g22;g33", "f12");
        Check.due("fits(5, 2) without READINGS", x.fits(5, 2), ALL);
        x.reading(2, 2);
        Check.due("fits(5, 2), 2 on top", x.fits(5, 2), ALL - 1);
        Check.due("fits(5, 1), 2 on top", x.fits(5, 1), 0);
        Check.due("fits(0, 1), 2 on top", x.fits(0, 1), ALL);
        x.reading(0, 0);
        Check.due("fits(5, 2), 0 below, too", x.fits(5, 2), ALL - 3);
        x.back(1);
        x.reading(1, 0);
        Check.due("fits(5, 3), 1 below", x.fits(5, 3), 2);
        x.reading(2, 2);
        Check.due("fits(5, 3), told twice", x.fits(5, 3), 2);
        x.reading(2, 1);
        Check.due("fits(5, 3), told otherwise", x.fits(5, 3), 0);
        Check.due("lie() as it was", x.lie(), 0);
        Check.due("fits(6, 0)", x.fits(6, 0), -1);
        Check.due("fits(-1, 1)", x.fits(-1, 1), -1);
        Check.due("fits(0, 0)", x.fits(0, 0), -2);
        Check.due("fits(0, 4)", x.fits(0, 4), -2);
        round();
        eight();
        atTheLast();
        NutsUp y = Check.nuts("g11;g22");
        Check.due("fits(0, 1) without a LAW", y.fits(0, 1), -3);
        Check.due("fits(0, 4) without a LAW", y.fits(0, 4), -2);
        Check.due("fits(2, 1) without a LAW", y.fits(2, 1), -1);
        Check.due("fits(0, 1) without a BOX", new NutsUp().fits(0, 1), -1);
        Check.end();
    }

    /** Of eight READINGS each counts, the first and the last, too. */
    private static void eight() {
        for (int wrong = -1; wrong < 8; wrong++) {
            NutsUp x = Check.nuts("g11;g22;g33", "n01");
            for (int r = 0; r < 8; r++) {
                x.reading(r % 3, r == wrong ? (r + 1) % 3 : r % 3);
            }
            Check.due("fits(0, 1), READING " + wrong + " is not so", x.fits(0, 1), wrong < 0 ? ALL : 0);
        }
    }

    /** 31 is no SHAKE of it, 30 is: by seven alike that go round in seven, and by each SHAKE gone one by one. */
    private static void atTheLast() {
        for (int place = 0; place < 7; place++) {
            NutsUp x = Check.nuts("g11;g11;g11;g11;g11;g11;g11", "f01");
            x.reading(2, place);
            int due = 0;
            for (int s = 0; s <= 30; s++) {
                due |= x.at(place) == 2 ? 1 << s : 0;
                x.shake(1, 1);
            }
            Check.due("fits(0, 1), 2 at PLACE " + place, x.fits(0, 1), due);
        }
    }

    /** Two alike go round in two SHAKES: 0 is below behind 0, 2 .. 30. */
    private static void round() {
        NutsUp x = Check.nuts("g11;g11", "f01");
        x.reading(0, 0);
        Check.due("fits(0, 1) of alike", x.fits(0, 1), 0x55555555);
        Check.due("fits(1, 1) of alike", x.fits(1, 1), 0x2AAAAAAA);
    }
}
