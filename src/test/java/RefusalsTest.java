import java.util.ArrayList;
import java.util.Arrays;
import java.util.List;
import java.util.function.Consumer;

/**
 * Each refusal and each FAULT of each call: by one below and one above each told range, by what is not there, by what
 * is full; two of them together, so that their order shows; and that they leave all behind as it was.
 */
final class RefusalsTest {
    private static final int UNKNOWN = -1, OUTSIDE = -2, STATE = -3, FULL = -4;
    private static final int NULL = 1, CAST = 2, INDEX = 3, SIZE = 4;
    private static final int MIN = Integer.MIN_VALUE, MAX = Integer.MAX_VALUE;
    /** What a way spoils: an argument's own bit, or one of these. */
    private static final int CELLS = 1 << 20, BOX = 1 << 21, LAWS = 1 << 22, READINGS = 1 << 23;
    private static final int GRAINS = 3, LIES = 6, NOTHING = 3;

    private static int refused;

    public static void main(String[] args) {
        theBox();
        lawsAndShakes();
        whereItGoes();
        doings();
        backwards();
        byCellsAhead();
        sheets();
        parts();
        Check.due("some 2,700 have been refused", refused > 2600 ? 1 : 0, 1);
        Check.end();
    }

    // ---- the calls, each with what its line tells, in that order

    private static void theBox() {
        Call box = new Call("box", (x, a) -> x.box(a[0], a[1], a[2], a[3]), true, 0, 0, 0, 7);
        box.cells = Check.codes("g11;g22");
        ofCells(box, 0);
        box.bad(-103, cell(3, '.'));
        box.check();

        Call ofGrain = new Call("ofGrain", (x, a) -> x.ofGrain(a[0], a[1]), false, 0, 0);
        ofGrain.bad(UNKNOWN, ofGrain.range(0, 0, GRAINS - 1), noBox());
        ofGrain.bad(OUTSIDE, ofGrain.range(1, 0, 5));
        ofGrain.check();

        Call at = new Call("at", (x, a) -> x.at(a[0]), false, 0);
        at.bad(UNKNOWN, at.range(0, 0, GRAINS - 1), noBox());
        at.check();

        Call lie = new Call("lie", (x, a) -> x.lie(), false);
        lie.bad(STATE, noBox());
        lie.check();

        Call lay = new Call("lay", (x, a) -> x.lay(a[0]), false, 0);
        lay.bad(UNKNOWN, lay.range(0, 0, LIES - 1), noBox());
        lay.check();

        Call of = new Call("of", (x, a) -> x.of(a[0], a[1]), false, 0, 0);
        of.bad(UNKNOWN, of.range(0, 0, LIES - 1), of.range(1, 0, GRAINS - 1), noBox());
        of.check();
    }

    private static void lawsAndShakes() {
        Call law = new Call("law", (x, a) -> x.law(a[0], a[1], a[2], a[3]), true, 0, 0, 0, 7);
        law.cells = Check.codes("r43;t21");
        ofCells(law, 0);
        law.bad(-106, cell(6, '4'));
        law.bad(FULL, fullOfLaws());
        law.check();

        Call ofCause = new Call("ofCause", (x, a) -> x.ofCause(a[0], a[1], a[2]), false, 0, 0, 0);
        ofCause.bad(UNKNOWN, ofCause.range(0, 0, 1), ofCause.range(1, 0, 1), noLaw());
        ofCause.bad(OUTSIDE, ofCause.range(2, 0, 2));
        ofCause.check();

        Call use = new Call("use", (x, a) -> x.use(a[0]), false, 0);
        use.bad(UNKNOWN, use.range(0, 0, 1), noLaw());
        use.check();

        Call cause = new Call("cause", (x, a) -> x.cause(a[0], a[1], a[2], a[3]), false, 0, 1, 0, 1);
        cause.bad(UNKNOWN, outOf(0, 0, GRAINS - 1), outOf(1, 0, GRAINS - 1), noBox());
        cause.bad(OUTSIDE, List.of(arguments(0, 2, 1, 2)), cause.range(2, 0, GRAINS - 2), cause.range(3, 1, 3));
        cause.bad(STATE, noLaw());
        cause.edge(0, 2, 1, 0);
        cause.edge(0, 0, 1, 2);
        cause.check();

        Call shake = new Call("shake", (x, a) -> x.shake(a[0], a[1]), false, 1, 1);
        shake.bad(OUTSIDE, shake.range(0, 1, 3), shake.range(1, 0, 99));
        shake.bad(STATE, noBox(), noLaw());
        shake.check();

        Call doing = new Call("doing", (x, a) -> x.doing(a[0], a[1], a[2], a[3]), true, 0, 0, 0, 3);
        ofCells(doing, 0);
        doing.bad(OUTSIDE, cell(0, 0), cell(1, 4), cell(2, -1), cell(2, 127));
        doing.bad(STATE, noBox(), noLaw());
        doing.check();

        Call turn = new Call("turn", (x, a) -> x.turn(), false);
        turn.bad(STATE, noBox());
        turn.check();

        Call spoon = new Call("spoon", (x, a) -> x.spoon(), false);
        spoon.bad(STATE, noBox());
        spoon.check();
    }

    private static void whereItGoes() {
        Call next = new Call("next", (x, a) -> x.next(a[0], a[1]), false, 0, 1);
        next.bad(UNKNOWN, next.range(0, 0, LIES - 1), noBox());
        next.bad(OUTSIDE, next.range(1, 1, 3));
        next.bad(STATE, noLaw());
        next.check();

        Call still = new Call("still", (x, a) -> x.still(a[0], a[1], a[2]), false, 0, 1, 0);
        still.bad(UNKNOWN, still.range(0, 0, LIES - 1), noBox());
        still.bad(OUTSIDE, still.range(1, 1, 3), still.range(2, 0, 1));
        still.bad(STATE, noLaw());
        still.check();

        soonOrBoss(new Call("soon", (x, a) -> x.soon(a[0], a[1], a[2]), false, 0, 0, 1));
        soonOrBoss(new Call("boss", (x, a) -> x.boss(a[0], a[1], a[2]), false, 0, 0, 1));

        Call mix = new Call("mix", (x, a) -> x.mix(a[0], a[1]), false, 0, 0);
        mix.bad(UNKNOWN, mix.range(0, 0, LIES - 1), noBox());
        mix.bad(OUTSIDE, mix.range(1, 0, 1));
        mix.check();
    }

    private static void soonOrBoss(Call call) {
        call.bad(UNKNOWN, call.range(0, 0, GRAINS - 1), call.range(1, 0, LIES - 1), noBox());
        call.bad(OUTSIDE, call.range(2, 1, 3));
        call.bad(STATE, noLaw());
        call.check();
    }

    private static void doings() {
        Call plan = new Call("plan", (x, a) -> x.plan(a[0], a[1], a[2]), false, 0, 1, 0);
        plan.bad(OUTSIDE, plan.range(0, 0, 1), plan.range(1, 0, 9));
        plan.bad(UNKNOWN, plan.range(2, -2, 8));
        plan.bad(STATE, noBox(), noLaw());
        plan.check();

        Call way = new Call("way", (x, a) -> x.way(a[0], a[1], a[2]), false, 0, 1, 0);
        way.bad(UNKNOWN, way.range(0, 0, LIES - 1), way.range(1, 0, LIES - 1), way.atLeast(2, -1), noBox());
        way.bad(STATE, noLaw());
        way.edge(2, MAX);
        way.check();
    }

    private static void backwards() {
        Call come = new Call("come", (x, a) -> x.come(a[0], a[1], a[2]), false, 0, 1, 1);
        come.bad(UNKNOWN, come.range(0, 0, LIES - 1), noBox());
        come.bad(OUTSIDE, come.range(1, 0, 99), come.range(2, 1, 3));
        come.bad(STATE, noLaw());
        come.check();

        Call bare = new Call("bare", (x, a) -> x.bare(a[0]), false, 1);
        bare.bad(OUTSIDE, bare.range(0, 1, 3));
        bare.bad(STATE, noBox(), noLaw());
        bare.check();

        Call odds = new Call("odds", (x, a) -> x.odds(a[0], a[1], a[2], a[3]), false, 0, 1, 1, 0);
        odds.answersLong = true;
        odds.bad(UNKNOWN, odds.range(0, 0, GRAINS - 1), noBox());
        odds.bad(OUTSIDE, odds.range(1, 0, 99), odds.range(2, 1, 3), odds.range(3, 0, 1));
        odds.bad(STATE, noLaw());
        odds.check();

        Call reading = new Call("reading", (x, a) -> x.reading(a[0], a[1]), false, 0, 0);
        reading.bad(UNKNOWN, reading.range(0, 0, GRAINS - 1), reading.range(1, 0, GRAINS - 1), noBox());
        reading.bad(FULL, fullOfReadings());
        reading.check();

        Call back = new Call("back", (x, a) -> x.back(a[0]), false, 1);
        back.bad(OUTSIDE, back.range(0, 0, 2));
        back.check();

        Call fits = new Call("fits", (x, a) -> x.fits(a[0], a[1]), false, 0, 1);
        fits.bad(UNKNOWN, fits.range(0, 0, LIES - 1), noBox());
        fits.bad(OUTSIDE, fits.range(1, 1, 3));
        fits.bad(STATE, noLaw());
        fits.check();

        Call bears = new Call("bears", (x, a) -> x.bears(a[0], a[1]), false, 1, 0);
        bears.bad(OUTSIDE, bears.range(0, 1, 3), outOf(1, 0, 99));
        bears.bad(STATE, noBox(), noLaw());
        bears.check();
    }

    /** The LIES come ahead of the cells, but there is one line of what is UNKNOWN. */
    private static void byCellsAhead() {
        Call which = new Call("which", (x, a) -> x.which(a[0], a[1], a[2], a[3], a[4], a[5]), true, 0, 0, 0, 0, 0, 3);
        which.bad(UNKNOWN, which.range(0, 0, LIES - 1), which.range(1, 0, LIES - 1), noBox());
        ofCells(which, 2);
        which.bad(OUTSIDE, cell(0, 0), cell(1, 4), cell(2, -1), cell(2, 127));
        which.check();
    }

    private static void sheets() {
        Call sheet = new Call("sheet", (x, a) -> x.sheet(a[0], a[1], a[2]), true, 0, 0, 3);
        sheet.bad(UNKNOWN, sheet.range(0, 0, 3));
        sheet.bad(OUTSIDE, sheet.range(1, 0, 2), sheet.atMost(2, 60));
        sheet.fault(SIZE, sheet.atLeast(2, 0));
        sheet.check();

        Call lose = new Call("lose", (x, a) -> x.lose(a[0]), false, 0);
        lose.bad(UNKNOWN, lose.range(0, 0, 3));
        lose.check();

        Call put = new Call("put", (x, a) -> x.put(a[0], a[1], a[2]), true, 0, 0, 5);
        put.bad(UNKNOWN, outOf(0, 0, 3));
        put.fault(NULL, List.of(arguments(0, NOTHING)));
        put.fault(INDEX, put.range(1, 0, 2));
        put.edge(2, MIN);
        put.edge(2, MAX);
        put.check();

        Call cell = new Call("cell", (x, a) -> x.cell(a[0], a[1], a[2]), true, 0, 0, 0);
        cell.answersLong = true;
        cell.bad(UNKNOWN, outOf(0, 0, 3));
        cell.bad(OUTSIDE, outOf(2, 0, 2));
        cell.fault(NULL, List.of(arguments(0, NOTHING)));
        cell.fault(CAST, List.of(arguments(2, 1), arguments(2, 2)));
        cell.fault(INDEX, cell.range(1, 0, 2));
        cell.check();

        Call copy = new Call("copy", (x, a) -> x.copy(a[0], a[1], a[2], a[3], a[4]), true, 0, 0, 1, 0, 2);
        copy.bad(UNKNOWN, outOf(0, 0, 3), outOf(2, 0, 3));
        copy.fault(NULL, List.of(arguments(0, NOTHING), arguments(2, NOTHING), arguments(0, NOTHING, 2, NOTHING)));
        copy.fault(CAST, List.of(arguments(0, 2), arguments(2, 2)));
        copy.fault(INDEX, outOf(1, 0, 1), outOf(3, 0, 2), outOf(4, 0, 3),
            List.of(arguments(1, 4, 4, 0), arguments(3, 5, 4, 0), arguments(1, -1, 4, 0), arguments(3, -1, 4, 0)));
        copy.edge(0, 0, 2, 0);
        copy.edge(1, 3, 4, 0);
        copy.edge(3, 4, 4, 0);
        copy.edge(1, 1, 3, 2);
        copy.edge(4, 3);
        copy.check();
    }

    private static void parts() {
        Call tell = new Call("tell", (x, a) -> x.tell(a[0]), false, 0);
        tell.bad(UNKNOWN, tell.range(0, 0, GRAINS - 1), noBox());
        tell.check();

        Call sift = new Call("sift", (x, a) -> x.sift(a[0]), false, 0);
        sift.bad(UNKNOWN, sift.range(0, 0, GRAINS - 1), noBox());
        sift.check();

        // GRAIN 2 is an OILY one: what it is not is no kind at all.
        Call as = new Call("as", (x, a) -> x.as(a[0], a[1]), true, 2, 0);
        as.bad(UNKNOWN, as.range(0, 0, GRAINS - 1), noBox());
        as.bad(OUTSIDE, as.range(1, 0, 2));
        as.fault(CAST, List.of(arguments(0, 0, 1, 1), arguments(0, 0, 1, 2), arguments(0, 1, 1, 2)));
        as.check();

        Call many = new Call("many", (x, a) -> x.many(a[0]), false, 0);
        many.bad(OUTSIDE, many.range(0, 0, 5));
        many.check();
    }

    /** What all calls tell that name n cells of a SHEET from i on; nothing is no CAST, so NULL is come to ahead. */
    private static void ofCells(Call call, int sheet) {
        int sort = sheet + 1;
        int i = sheet + 2;
        int n = sheet + 3;
        int length = call.cells.length;
        call.bad(UNKNOWN, outOf(sheet, 0, 3));
        call.bad(OUTSIDE, outOf(sort, 0, 2));
        call.fault(NULL, List.of(arguments(sheet, NOTHING)));
        call.fault(CAST, List.of(arguments(sort, 1), arguments(sort, 2)));
        call.fault(SIZE, List.of(arguments(n, -1), arguments(n, MIN)));
        call.fault(INDEX, outOf(i, 0, 0), List.of(arguments(n, length + 1), arguments(n, MAX), arguments(i, MAX, n, MAX),
            arguments(i, -1, n, 0), arguments(i, length + 1, n, 0), arguments(i, 1, n, length)));
        call.edge(i, length, n, 0);
        call.edge(i, 0, n, 0);
        call.edge(i, length - 1, n, 1);
    }

    // ---- ways to spoil what a call is made on

    /** What a call is made on, and by which arguments. */
    private static final class Room {
        boolean box = true;
        boolean law = true;
        boolean fullOfLaws;
        boolean fullOfReadings;
        int[] cells;
        int[] arguments;

        NutsUp made(int faultAhead) {
            NutsUp x = new NutsUp();
            if (box) {
                Check.box(x, "g52;g34l;g93lo");
                x.tell(2);
            }
            for (int l = 0; law && l < (fullOfLaws ? 4 : 2); l++) {
                Check.law(x, l == 0 ? "f12;h11" : "n02;a4" + l);
            }
            x.use(1);
            x.lay(3);
            x.shake(2, 3);
            for (int r = 0; r < (fullOfReadings ? 8 : 2); r++) {
                x.reading(1 + r % 2, r % 2);
            }
            Check.row(x, 0, 0, cells);
            Check.row(x, 1, 0, 7, -8, 9, 6);
            Check.row(x, 2, 2, 4, 5000);
            x.lose(NOTHING);
            if (faultAhead == SIZE) {
                x.sheet(NOTHING, 0, -1);
            } else {
                x.put(NOTHING, 0, 0);
            }
            return x;
        }
    }

    private record Way(String name, int spoils, Consumer<Room> how) {
    }

    private static Way arguments(int... placesAndValues) {
        int spoils = 0;
        for (int a = 0; a < placesAndValues.length; a += 2) {
            spoils |= 1 << placesAndValues[a];
        }
        return new Way("", spoils, room -> {
            for (int a = 0; a < placesAndValues.length; a += 2) {
                room.arguments[placesAndValues[a]] = placesAndValues[a + 1];
            }
        });
    }

    private static List<Way> outOf(int argument, int least, int greatest) {
        return List.of(arguments(argument, least - 1), arguments(argument, greatest + 1), arguments(argument, MIN),
            arguments(argument, MAX));
    }

    private static List<Way> cell(int place, int value) {
        return List.of(new Way("cell " + place + " is " + value, CELLS, room -> room.cells[place] = value));
    }

    private static List<Way> noBox() {
        return List.of(new Way("no BOX", BOX, room -> room.box = false));
    }

    private static List<Way> noLaw() {
        return List.of(new Way("no LAW", LAWS, room -> room.law = false));
    }

    private static List<Way> fullOfLaws() {
        return List.of(new Way("full of LAWS", LAWS, room -> room.fullOfLaws = true));
    }

    private static List<Way> fullOfReadings() {
        return List.of(new Way("full of READINGS", READINGS, room -> room.fullOfReadings = true));
    }

    // ---- a call, and what it is refused by

    private interface Asked {
        long of(NutsUp x, int[] arguments);
    }

    private record Bad(int due, int fault, List<Way> ways) {
    }

    private static final class Call {
        final String name;
        final Asked asked;
        final boolean namesFaults;
        final int[] good;
        int[] cells = {1, 2, 3};
        boolean answersLong;
        final List<Bad> bads = new ArrayList<>();
        final List<Way> edges = new ArrayList<>();

        Call(String name, Asked asked, boolean namesFaults, int... good) {
            this.name = name;
            this.asked = asked;
            this.namesFaults = namesFaults;
            this.good = good;
            edges.add(arguments());
        }

        @SafeVarargs
        final void bad(int due, List<Way>... ways) {
            bads.add(new Bad(due, 0, together(ways)));
        }

        @SafeVarargs
        final void fault(int fault, List<Way>... ways) {
            bads.add(new Bad(-10 - fault, fault, together(ways)));
        }

        @SafeVarargs
        private static List<Way> together(List<Way>... ways) {
            List<Way> all = new ArrayList<>();
            for (List<Way> some : ways) {
                all.addAll(some);
            }
            return all;
        }

        void edge(int... placesAndValues) {
            edges.add(arguments(placesAndValues));
        }

        /** The least and the greatest are taken, what is beside is not. */
        List<Way> range(int argument, int least, int greatest) {
            edge(argument, least);
            edge(argument, greatest);
            return outOf(argument, least, greatest);
        }

        List<Way> atLeast(int argument, int least) {
            edge(argument, least);
            return List.of(arguments(argument, least - 1), arguments(argument, MIN));
        }

        List<Way> atMost(int argument, int greatest) {
            edge(argument, greatest);
            return List.of(arguments(argument, greatest + 1), arguments(argument, MAX));
        }

        void check() {
            for (Way edge : edges) {
                taken(edge);
            }
            for (int b = 0; b < bads.size(); b++) {
                for (Way way : bads.get(b).ways) {
                    isRefused(bads.get(b), way, arguments());
                    for (Bad later : bads.subList(b + 1, bads.size())) {
                        for (Way other : later.ways) {
                            isRefused(bads.get(b), way, other);
                        }
                    }
                }
            }
        }

        private Room room(Way one, Way other) {
            Room room = new Room();
            room.arguments = good.clone();
            room.cells = cells.clone();
            other.how.accept(room);
            one.how.accept(room);
            return room;
        }

        private String told(Room room, Way one, Way other) {
            return name + Arrays.toString(room.arguments) + " " + one.name + " " + other.name;
        }

        private void taken(Way edge) {
            Room room = room(edge, arguments());
            NutsUp x = room.made(NULL);
            long got = asked.of(x, room.arguments);
            boolean taken = got != Check.LOST && (got >= 0 || got <= -100 || got == -9);
            Check.due(told(room, edge, arguments()) + " is taken (" + got + ")", taken ? 1 : 0, 1);
            Check.due("fault() behind it", x.fault(), namesFaults ? 0 : NULL);
        }

        private void isRefused(Bad bad, Way way, Way other) {
            if ((way.spoils & other.spoils) != 0) {
                return;
            }
            refused++;
            Room room = room(way, other);
            int faultAhead = bad.fault == SIZE ? NULL : SIZE;
            NutsUp x = room.made(faultAhead);
            String told = told(room, way, other);
            Check.due(told, asked.of(x, room.arguments), answersLong ? Check.LOST : bad.due);
            Check.due("fault() behind " + told, x.fault(), namesFaults ? bad.fault : faultAhead);
            String was = all(room.made(faultAhead));
            String is = all(x);
            if (!is.equals(was)) {
                Check.due(told + " leaves " + is + " behind, not " + was, 1, 0);
            }
        }
    }

    /** All that an object tells of itself; some 200 calls. */
    private static String all(NutsUp x) {
        StringBuilder all = new StringBuilder();
        for (int what = 0; what < 6; what++) {
            all.append(x.many(what)).append(' ');
        }
        all.append(x.lie()).append(' ').append(x.trace()).append('\n');
        for (int g = 0; g < GRAINS; g++) {
            for (int what = 0; what < 6; what++) {
                all.append(x.ofGrain(g, what)).append(' ');
            }
            all.append(x.at(g)).append(' ');
        }
        for (int l = 0; l < 4; l++) {
            for (int c = 0; c < 2; c++) {
                all.append(x.ofCause(l, c, 0)).append(x.ofCause(l, c, 1)).append(x.ofCause(l, c, 2)).append(' ');
            }
        }
        for (int lie = 0; lie < LIES; lie++) {
            all.append(x.fits(lie, 1)).append(' ').append(x.fits(lie, 3)).append(' ');
        }
        for (int k = 0; k < 4; k++) {
            for (int sort = 0; sort < 3; sort++) {
                for (int i = 0; i < (sort == 1 ? 1 : 8); i++) {
                    all.append(x.cell(k, i, sort)).append(' ');
                }
                all.append(x.fault()).append('\n');
            }
        }
        return all.toString();
    }
}
