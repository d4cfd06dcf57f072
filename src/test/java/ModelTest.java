import java.util.function.LongSupplier;

/** Long runs of calls, the same ones each time, on the class and on the model side by side. */
final class ModelTest {
    private static final int RUNS = 2500;
    private static final int CALLS = 512;

    private long seed;
    private NutsUp x;
    private Model model;
    private int grains;
    private StringBuilder log;
    private int made;

    public static void main(String[] args) {
        for (int run = 0; run < RUNS; run++) {
            new ModelTest().run(run);
        }
    }

    private void run(int number) {
        seed = number * 7919L + 13;
        x = new NutsUp();
        model = new Model();
        log = new StringBuilder();
        int most = number % 50 == 0 ? 7 : number % 10 == 0 ? 6 : 5;
        int calls = most == 7 ? 150 : CALLS;
        if (number % 7 != 0) {
            writeBox(most);
            writeLaw();
        }
        // The greatest single doing of a run, a TEXT that is written and taken, has fewer than 60 calls.
        while (made < calls - 60) {
            any(most);
        }
    }

    /** A number from 0 to n - 1. */
    private int upTo(int n) {
        seed = seed * 6364136223846793005L + 1442695040888963407L;
        return (int) ((seed >>> 33) % n);
    }

    /** Most often a number from least to greatest, now and then one beside or far off. */
    private int about(int least, int greatest) {
        switch (upTo(60)) {
            case 0:
                return least - 1;
            case 1:
                return greatest + 1;
            case 2:
                return upTo(2) == 0 ? Integer.MIN_VALUE : Integer.MAX_VALUE;
            default:
                return least + upTo(Math.max(1, greatest - least + 1));
        }
    }

    private void same(String call, LongSupplier one, LongSupplier other) {
        made++;
        log.append(call).append('\n');
        long got = one.getAsLong();
        long due = other.getAsLong();
        if (got != due) {
            System.out.println(log);
            System.out.println("the last call answered " + got + ", due is " + due);
            System.exit(1);
        }
    }

    private static String told(String name, int... arguments) {
        StringBuilder told = new StringBuilder(name).append('(');
        for (int i = 0; i < arguments.length; i++) {
            told.append(i == 0 ? "" : ", ").append(arguments[i]);
        }
        return told.append(')').toString();
    }

    private int digit(int least) {
        return '0' + least + upTo(10 - least);
    }

    private String grain() {
        // Often few SIZES and WEIGHTS, so that GRAINS are alike.
        boolean few = upTo(2) == 0;
        String text = "g" + (few ? upTo(3) + 1 : upTo(9) + 1) + (few ? upTo(3) + 1 : upTo(9) + 1);
        return text + new String[] {"", "", "l", "lo"}[upTo(4)];
    }

    private void writeBox(int most) {
        int n = 2 + upTo(most - 1);
        StringBuilder text = new StringBuilder(grain());
        for (int g = 1; g < n; g++) {
            text.append(';').append(grain());
        }
        write(text, true);
    }

    private void writeLaw() {
        int n = 1 + upTo(6);
        StringBuilder text = new StringBuilder();
        for (int c = 0; c < n; c++) {
            text.append(c == 0 ? "" : ";").append("fhrtna".charAt(upTo(6)));
            text.append(upTo(3) == 0 ? upTo(10) : upTo(4)).append(upTo(3) + 1);
        }
        write(text, false);
    }

    /** Puts a text on a SHEET, now and then with a wrong code, and makes the call. */
    private void write(StringBuilder text, boolean box) {
        int k = upTo(4);
        int sort = upTo(3);
        int i = upTo(4);
        int n = text.length();
        if (upTo(12) == 0) {
            text.setCharAt(upTo(n), "gfhrtnalo;0123456789x".charAt(upTo(21)));
        }
        if (upTo(20) == 0) {
            n = upTo(n + 1);
        }
        int length = i + text.length();
        same(told("sheet", k, sort, length), () -> x.sheet(k, sort, length), () -> model.sheet(k, sort, length));
        for (int c = 0; c < text.length(); c++) {
            int cell = i + c;
            int code = text.charAt(c);
            same(told("put", k, cell, code), () -> x.put(k, cell, code), () -> model.put(k, cell, code));
        }
        int taken = n;
        if (box) {
            same(told("box", k, sort, i, taken), () -> x.box(k, sort, i, taken), () -> model.box(k, sort, i, taken));
            grains = model.many(0);
        } else {
            same(told("law", k, sort, i, taken), () -> x.law(k, sort, i, taken), () -> model.law(k, sort, i, taken));
        }
    }

    private int anyLie() {
        return about(0, model.many(1) - 1);
    }

    private int anyGrain() {
        return about(0, grains - 1);
    }

    private int anyHard() {
        return about(1, 3);
    }

    private void any(int most) {
        int call = upTo(46);
        if (call < 16) {
            boxAndLaws(call, most);
        } else if (call < 32) {
            goings(call);
        } else {
            sheetsAndParts(call);
        }
    }

    private void boxAndLaws(int call, int most) {
        int g = anyGrain();
        int lie = anyLie();
        int hard = anyHard();
        int place = anyGrain();
        int what = about(0, 5);
        int l = about(0, model.many(2) - 1);
        switch (call) {
            case 0 -> {
                if (upTo(6) == 0) {
                    writeBox(most);
                }
            }
            case 1 -> {
                if (upTo(4) == 0) {
                    writeLaw();
                }
            }
            case 2 -> same(told("ofGrain", g, what), () -> x.ofGrain(g, what), () -> model.ofGrain(g, what));
            case 3 -> same(told("at", place), () -> x.at(place), () -> model.at(place));
            case 4 -> same("lie()", () -> x.lie(), () -> model.lie());
            case 5 -> same(told("lay", lie), () -> x.lay(lie), () -> model.lay(lie));
            case 6 -> same(told("of", lie, place), () -> x.of(lie, place), () -> model.of(lie, place));
            case 7 -> {
                int w = about(0, 2);
                same(told("ofCause", l, what, w), () -> x.ofCause(l, what, w), () -> model.ofCause(l, what, w));
            }
            case 8, 9 -> same(told("use", l), () -> x.use(l), () -> model.use(l));
            case 10, 11 -> {
                int y = anyGrain();
                int p = about(0, grains - 2);
                same(told("cause", g, y, p, hard), () -> x.cause(g, y, p, hard), () -> model.cause(g, y, p, hard));
            }
            case 12 -> {
                int n = upTo(2) == 0 ? about(0, 99) : about(0, 3);
                same(told("shake", hard, n), () -> x.shake(hard, n), () -> model.shake(hard, n));
            }
            case 13 -> same("turn()", () -> x.turn(), () -> model.turn());
            case 14 -> same("spoon()", () -> x.spoon(), () -> model.spoon());
            default -> same(told("many", what), () -> x.many(what), () -> model.many(what));
        }
    }

    private void goings(int call) {
        int g = anyGrain();
        int lie = anyLie();
        int other = anyLie();
        int hard = anyHard();
        int what = about(0, 1);
        int k = upTo(2) == 0 ? about(0, 99) : about(0, 4);
        switch (call) {
            case 16 -> same(told("next", lie, hard), () -> x.next(lie, hard), () -> model.next(lie, hard));
            case 17 -> same(told("still", lie, hard, what), () -> x.still(lie, hard, what),
                () -> model.still(lie, hard, what));
            case 18 -> same(told("soon", g, lie, hard), () -> x.soon(g, lie, hard), () -> model.soon(g, lie, hard));
            case 19, 20 -> same(told("boss", g, lie, hard), () -> x.boss(g, lie, hard), () -> model.boss(g, lie, hard));
            case 21 -> same(told("mix", lie, what), () -> x.mix(lie, what), () -> model.mix(lie, what));
            case 22, 23 -> {
                int most = upTo(40) == 0 ? 9 : about(0, 4);
                int q = about(-2, upTo(2) == 0 ? 8 : 2);
                same(told("plan", what, most, q), () -> x.plan(what, most, q), () -> model.plan(what, most, q));
            }
            case 24, 25 -> {
                int q = about(-1, upTo(2) == 0 ? 8 : 2);
                same(told("way", lie, other, q), () -> x.way(lie, other, q), () -> model.way(lie, other, q));
            }
            case 26 -> same(told("come", lie, k, hard), () -> x.come(lie, k, hard), () -> model.come(lie, k, hard));
            case 27 -> same(told("bare", hard), () -> x.bare(hard), () -> model.bare(hard));
            case 28 -> same(told("odds", g, k, hard, what), () -> x.odds(g, k, hard, what),
                () -> model.odds(g, k, hard, what));
            case 29 -> {
                int place = anyGrain();
                same(told("reading", g, place), () -> x.reading(g, place), () -> model.reading(g, place));
            }
            case 30 -> {
                int back = about(0, model.many(3));
                same(told("back", back), () -> x.back(back), () -> model.back(back));
            }
            default -> same(told("fits", lie, hard), () -> x.fits(lie, hard), () -> model.fits(lie, hard));
        }
    }

    private void sheetsAndParts(int call) {
        int g = anyGrain();
        int k = about(0, 3);
        int sort = about(0, 2);
        int i = about(0, 6);
        int n = about(0, 6);
        switch (call) {
            case 32, 33 -> rowOfHards();
            case 34 -> {
                int hard = anyHard();
                int m = upTo(2) == 0 ? about(0, 99) : about(0, 20);
                same(told("bears", hard, m), () -> x.bears(hard, m), () -> model.bears(hard, m));
            }
            case 35 -> {
                int length = upTo(2) == 0 ? about(0, 60) : about(0, 8);
                same(told("sheet", k, sort, length), () -> x.sheet(k, sort, length), () -> model.sheet(k, sort, length));
            }
            case 36 -> {
                if (upTo(3) == 0) {
                    same(told("lose", k), () -> x.lose(k), () -> model.lose(k));
                }
            }
            case 37 -> {
                int v = upTo(3) == 0 ? (int) (seed >>> 20) : about(-300, 300);
                same(told("put", k, i, v), () -> x.put(k, i, v), () -> model.put(k, i, v));
            }
            case 38 -> same(told("cell", k, i, sort), () -> x.cell(k, i, sort), () -> model.cell(k, i, sort));
            case 39 -> {
                int other = about(0, 3);
                int j = about(0, 6);
                same(told("copy", k, i, other, j, n), () -> x.copy(k, i, other, j, n),
                    () -> model.copy(k, i, other, j, n));
            }
            case 40 -> same(told("tell", g), () -> x.tell(g), () -> model.tell(g));
            case 41 -> same(told("sift", g), () -> x.sift(g), () -> model.sift(g));
            case 42 -> same(told("as", g, sort), () -> x.as(g, sort), () -> model.as(g, sort));
            case 43 -> same("trace()", () -> x.trace(), () -> model.trace());
            case 44 -> same("fault()", () -> x.fault(), () -> model.fault());
            default -> withAnyCells(k, sort, i, n);
        }
    }

    private void rowOfHards() {
        int k = upTo(4);
        int length = upTo(6);
        same(told("sheet", k, 0, length), () -> x.sheet(k, 0, length), () -> model.sheet(k, 0, length));
        for (int c = 0; c < length; c++) {
            int cell = c;
            int hard = anyHard();
            same(told("put", k, cell, hard), () -> x.put(k, cell, hard), () -> model.put(k, cell, hard));
        }
        int i = about(0, 1);
        int n = about(0, length - 1);
        if (upTo(2) == 0) {
            same(told("doing", k, 0, i, n), () -> x.doing(k, 0, i, n), () -> model.doing(k, 0, i, n));
            return;
        }
        int a = anyLie();
        int b = upTo(2) == 0 ? anyLie() : whereItGoes(a, k, i, n);
        same(told("which", a, b, k, 0, i, n), () -> x.which(a, b, k, 0, i, n), () -> model.which(a, b, k, 0, i, n));
    }

    /** So that WHICH is often not empty: where some LAW takes it. */
    private int whereItGoes(int a, int k, int i, int n) {
        for (int b = 0; b < Math.min(120, model.many(1)); b++) {
            if (model.which(a, b, k, 0, i, n) > 0) {
                return b;
            }
        }
        return a;
    }

    private void withAnyCells(int k, int sort, int i, int n) {
        int a = anyLie();
        int b = anyLie();
        switch (upTo(4)) {
            case 0 -> {
                same(told("box", k, sort, i, n), () -> x.box(k, sort, i, n), () -> model.box(k, sort, i, n));
                grains = model.many(0);
            }
            case 1 -> same(told("law", k, sort, i, n), () -> x.law(k, sort, i, n), () -> model.law(k, sort, i, n));
            case 2 -> same(told("doing", k, sort, i, n), () -> x.doing(k, sort, i, n),
                () -> model.doing(k, sort, i, n));
            default -> same(told("which", a, b, k, sort, i, n), () -> x.which(a, b, k, sort, i, n),
                () -> model.which(a, b, k, sort, i, n));
        }
        same("fault()", () -> x.fault(), () -> model.fault());
    }
}
