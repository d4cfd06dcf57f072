import java.util.Arrays;

/** A box of grains that is told in a text and shaken by laws; ../shared/DOC.md says what each call answers. */
public final class NutsUp {
    public static final int UNKNOWN = -1, OUTSIDE = -2, STATE = -3, FULL = -4, NONE = -9;
    public static final long LOST = Long.MIN_VALUE;

    private static final int NO_FAULT = 0, NULL_FAULT = 1, CAST_FAULT = 2, INDEX_FAULT = 3, SIZE_FAULT = 4;
    private static final int FEWEST_GRAINS = 2, MOST_GRAINS = 7;
    private static final int MOST_LAWS = 4, MOST_CAUSES = 6, HARDEST = 3, MOST_SHAKES = 99;
    private static final int TURNING = 4, SPOONING = 5, MOST_PLANNED = 9;
    private static final int MOST_READINGS = 8, LAST_FITTING = 30, MOST_MIX = 99;
    private static final int SHEETS = 4, MOST_CELLS = 60, BYTES = 0, SHORTS = 1, SORTS = 3;
    /** What cells have in the stead of a refusal, if there is none. */
    private static final int TAKEN = 0;
    /** What a TEXT without a FIRST FAULT has in its stead. */
    private static final int WHOLE = -1;
    /** What SOON counts as where it is NONE. */
    private static final int NEVER = 9999;
    private static final int[] FACTORIALS = {1, 1, 2, 6, 24, 120, 720, 5040};
    private static final int[] LETTERS = {'f', 'h', 'r', 't', 'n', 'a'};
    private static final int FALLS = 0, SINKS = 1, RISES = 2, TILTS = 3, NEAR_TOP = 4;

    private final Box box = new Box();
    private final Law[] laws = new Law[MOST_LAWS];
    private int lawCount;
    private int inForce;
    private int lieNow;
    private int shakes;
    private final int[] readGrains = new int[MOST_READINGS];
    private final int[] readPlaces = new int[MOST_READINGS];
    private int readings;
    private final Sheet[] sheets = new Sheet[SHEETS];
    private final Trail trail = new Trail();
    private int latestFault;
    private final Rule spareRule = new Rule();
    private final Search search = new Search();
    // Rows of a number for each LIE, kept from call to call: what calls make is never given back.
    private int[] far = new int[0];
    private int[] leap = new int[0];
    private int[] marks = new int[0];

    public NutsUp() {
        for (int k = 0; k < SHEETS; k++) {
            sheets[k] = new Sheet();
        }
    }

    // ---- 1 the box

    public int box(int sheet, int sort, int i, int n) {
        int refusal = refusalOfCells(sheet, sort, i, n);
        if (refusal != TAKEN) {
            return refusal;
        }
        int[] cells = sheets[sheet].cells;
        int firstFault = Box.firstFault(cells, i, n);
        if (firstFault != WHOLE) {
            return -100 - firstFault;
        }
        box.fill(cells, i, n);
        widenRows();
        lieNow = 0;
        readings = 0;
        shakes = 0;
        return box.count;
    }

    public int ofGrain(int g, int what) {
        if (noGrain(g)) {
            return UNKNOWN;
        }
        Grain grain = box.grains[g];
        switch (what) {
            case 0:
                return grain.kind;
            case 1:
                return grain.size;
            case 2:
                return grain.weight;
            case 3:
                return grain.bulk;
            case 4:
                return grain.heft;
            case 5:
                return box.placeOf(g, box.rowOf(lieNow));
            default:
                return OUTSIDE;
        }
    }

    public int at(int place) {
        return noPlace(place) ? UNKNOWN : Box.grainIn(box.rowOf(lieNow), place);
    }

    public int lie() {
        return noBox() ? STATE : lieNow;
    }

    public int lay(int lie) {
        if (noLie(lie)) {
            return UNKNOWN;
        }
        int was = lieNow;
        lieNow = lie;
        return was;
    }

    public int of(int lie, int place) {
        return noLie(lie) || noPlace(place) ? UNKNOWN : Box.grainIn(box.rowOf(lie), place);
    }

    // ---- 2 laws, shakes

    public int law(int sheet, int sort, int i, int n) {
        int refusal = refusalOfCells(sheet, sort, i, n);
        if (refusal != TAKEN) {
            return refusal;
        }
        int[] cells = sheets[sheet].cells;
        int firstFault = Law.firstFault(cells, i, n);
        if (firstFault != WHOLE) {
            return -100 - firstFault;
        }
        if (lawCount >= MOST_LAWS) {
            return FULL;
        }
        laws[lawCount] = new Law(cells, i, n);
        lawCount++;
        return lawCount - 1;
    }

    public int ofCause(int l, int c, int what) {
        if (l < 0 || l >= lawCount || c < 0 || c >= laws[l].causes.length) {
            return UNKNOWN;
        }
        Cause cause = laws[l].causes[c];
        switch (what) {
            case 0:
                return cause.letter;
            case 1:
                return cause.digit;
            case 2:
                return cause.hard;
            default:
                return OUTSIDE;
        }
    }

    public int use(int l) {
        if (l < 0 || l >= lawCount) {
            return UNKNOWN;
        }
        int was = inForce;
        inForce = l;
        return was;
    }

    public int cause(int x, int y, int place, int hard) {
        if (noGrain(x) || noGrain(y)) {
            return UNKNOWN;
        }
        if (x == y || place < 0 || place > box.count - 2 || noHard(hard)) {
            return OUTSIDE;
        }
        Law law = lawInForce();
        if (law == null) {
            return STATE;
        }
        return law.ruling(box.grains[x], box.grains[y], place, hard, NONE);
    }

    public int shake(int hard, int n) {
        if (noHard(hard) || n < 0 || n > MOST_SHAKES) {
            return OUTSIDE;
        }
        Law law = lawInForce();
        if (noBox() || law == null) {
            return STATE;
        }
        int changes = 0;
        for (int s = 0; s < n; s++) {
            changes += shakeOnce(law, hard);
        }
        return changes;
    }

    public int doing(int sheet, int sort, int i, int n) {
        int refusal = refusalOfCells(sheet, sort, i, n);
        if (refusal != TAKEN) {
            return refusal;
        }
        int[] cells = sheets[sheet].cells;
        if (!allHard(cells, i, n)) {
            return OUTSIDE;
        }
        Law law = lawInForce();
        if (noBox() || law == null) {
            return STATE;
        }
        int changes = 0;
        for (int s = 0; s < n; s++) {
            changes += shakeOnce(law, cells[i + s]);
        }
        return changes;
    }

    public int turn() {
        if (noBox()) {
            return STATE;
        }
        lieNow = turned(lieNow);
        return lieNow;
    }

    public int spoon() {
        if (noBox()) {
            return STATE;
        }
        int lowest = Box.grainIn(box.rowOf(lieNow), 0);
        lieNow = spooned(lieNow);
        return lowest;
    }

    // ---- 3 where it goes

    public int next(int lie, int hard) {
        if (noLie(lie)) {
            return UNKNOWN;
        }
        if (noHard(hard)) {
            return OUTSIDE;
        }
        Law law = lawInForce();
        if (law == null) {
            return STATE;
        }
        return motionOf(law, hard).after(box, lie);
    }

    public int still(int lie, int hard, int what) {
        if (noLie(lie)) {
            return UNKNOWN;
        }
        if (noHard(hard) || what < 0 || what > 1) {
            return OUTSIDE;
        }
        Law law = lawInForce();
        if (law == null) {
            return STATE;
        }
        Motion motion = motionOf(law, hard);
        Arrays.fill(marks, 0, box.lies, 0);
        int now = lie;
        int step = 1;
        while (step <= box.lies && marks[now] == 0) {
            marks[now] = step;
            now = motion.after(box, now);
            step++;
        }
        return what == 0 ? marks[now] - 1 : step - marks[now];
    }

    public int soon(int g, int lie, int hard) {
        if (noGrain(g) || noLie(lie)) {
            return UNKNOWN;
        }
        if (noHard(hard)) {
            return OUTSIDE;
        }
        Law law = lawInForce();
        if (law == null) {
            return STATE;
        }
        return soonBy(motionOf(law, hard).rule, g, lie);
    }

    public int boss(int g, int lie, int hard) {
        int soon = soon(g, lie, hard);
        Law law = lawInForce();
        if (soon < 0 && soon != NONE || law == null) {
            return soon;
        }
        int boss = NONE;
        int most = 0;
        for (int c = 0; c < law.causes.length; c++) {
            spareRule.learn(box, law, hard, c);
            int without = soonBy(spareRule, g, lie);
            int by = Math.abs(counted(without) - counted(soon));
            if (by > most) {
                most = by;
                boss = c;
            }
        }
        return boss;
    }

    public int mix(int lie, int what) {
        if (noLie(lie)) {
            return UNKNOWN;
        }
        return what < 0 || what > 1 ? OUTSIDE : measured(lie, what);
    }

    // ---- 4 doings

    public int plan(int aim, int k, int q) {
        if (aim < 0 || aim > 1 || k < 0 || k > MOST_PLANNED) {
            return OUTSIDE;
        }
        if (q < -2 || q >= MOST_PLANNED) {
            return UNKNOWN;
        }
        Law law = lawInForce();
        if (noBox() || law == null) {
            return STATE;
        }
        spread(law, lieNow, NONE, HARDEST, k);
        int best = lieNow;
        int most = measured(lieNow, aim);
        // The queue goes by length, then by rows: the first of the greatest is the one.
        for (int f = 1; f < search.found; f++) {
            int value = measured(search.queue[f], aim);
            if (value > most) {
                most = value;
                best = search.queue[f];
            }
        }
        if (q == -1) {
            return most;
        }
        return q == -2 ? search.depth[best] : search.stepTo(best, q);
    }

    public int way(int a, int b, int q) {
        if (noLie(a) || noLie(b) || q < -1) {
            return UNKNOWN;
        }
        Law law = lawInForce();
        if (law == null) {
            return STATE;
        }
        spread(law, a, b, SPOONING, box.lies);
        if (search.depth[b] < 0) {
            return NONE;
        }
        return q == -1 ? search.depth[b] : search.stepTo(b, q);
    }

    // ---- 5 backwards

    public int come(int lie, int k, int hard) {
        if (noLie(lie)) {
            return UNKNOWN;
        }
        if (k < 0 || k > MOST_SHAKES || noHard(hard)) {
            return OUTSIDE;
        }
        Law law = lawInForce();
        if (law == null) {
            return STATE;
        }
        lookFar(motionOf(law, hard), k);
        int coming = 0;
        for (int from = 0; from < box.lies; from++) {
            if (far[from] == lie) {
                coming++;
            }
        }
        return coming;
    }

    public int bare(int hard) {
        if (noHard(hard)) {
            return OUTSIDE;
        }
        Law law = lawInForce();
        if (noBox() || law == null) {
            return STATE;
        }
        Motion motion = motionOf(law, hard);
        Arrays.fill(marks, 0, box.lies, 0);
        int bare = box.lies;
        for (int lie = 0; lie < box.lies; lie++) {
            int next = motion.after(box, lie);
            if (marks[next] == 0) {
                marks[next] = 1;
                bare--;
            }
        }
        return bare;
    }

    public long odds(int g, int k, int hard, int which) {
        Law law = lawInForce();
        if (noGrain(g) || k < 0 || k > MOST_SHAKES || noHard(hard) || which < 0 || which > 1 || law == null) {
            return LOST;
        }
        lookFar(motionOf(law, hard), k);
        int onTop = 0;
        for (int lie = 0; lie < box.lies; lie++) {
            if (Box.grainIn(box.rowOf(far[lie]), box.count - 1) == g) {
                onTop++;
            }
        }
        int divisor = commonDivisor(box.lies, onTop);
        if (divisor == 0) {
            return LOST;
        }
        return which == 0 ? onTop / divisor : box.lies / divisor;
    }

    public int reading(int g, int place) {
        if (noGrain(g) || noPlace(place)) {
            return UNKNOWN;
        }
        if (readings >= MOST_READINGS) {
            return FULL;
        }
        readGrains[readings] = g;
        readPlaces[readings] = place;
        readings++;
        return readings - 1;
    }

    public int back(int k) {
        if (k < 0 || k > readings) {
            return OUTSIDE;
        }
        readings -= k;
        return readings;
    }

    public int fits(int lie, int hard) {
        if (noLie(lie)) {
            return UNKNOWN;
        }
        if (noHard(hard)) {
            return OUTSIDE;
        }
        Law law = lawInForce();
        if (law == null) {
            return STATE;
        }
        Motion motion = motionOf(law, hard);
        int set = 0;
        int now = lie;
        for (int s = 0; s <= LAST_FITTING; s++) {
            if (isAsRead(box.rowOf(now))) {
                set |= 1 << s;
            }
            now = motion.after(box, now);
        }
        return set;
    }

    public int which(int a, int b, int sheet, int sort, int i, int n) {
        latestFault = NO_FAULT;
        if (noLie(a) || noLie(b)) {
            return UNKNOWN;
        }
        int refusal = refusalOfCells(sheet, sort, i, n);
        if (refusal != TAKEN) {
            return refusal;
        }
        int[] cells = sheets[sheet].cells;
        if (!allHard(cells, i, n)) {
            return OUTSIDE;
        }
        int set = 0;
        for (int l = 0; l < lawCount; l++) {
            int now = a;
            for (int s = 0; s < n; s++) {
                now = motionOf(laws[l], cells[i + s]).after(box, now);
            }
            if (now == b) {
                set |= 1 << l;
            }
        }
        return set;
    }

    public int bears(int hard, int m) {
        if (noHard(hard) || m < 0 || m > MOST_MIX) {
            return OUTSIDE;
        }
        Law law = lawInForce();
        if (noBox() || law == null) {
            return STATE;
        }
        Rule rule = motionOf(law, hard).rule;
        int row = box.rowOf(lieNow);
        int mark = NONE;
        for (int s = 0; s <= box.lies; s++) {
            if (box.mixOf(row) < m) {
                return s - 1;
            }
            if (row == mark) {
                return NONE;
            }
            mark = isTimeToMark(s) ? row : mark;
            row = rule.shaken(row, box.count);
        }
        return NONE;
    }

    // ---- 6 sheets, parts

    public int sheet(int k, int sort, int n) {
        latestFault = NO_FAULT;
        if (noSheet(k)) {
            return UNKNOWN;
        }
        if (noSort(sort) || n > MOST_CELLS) {
            return OUTSIDE;
        }
        if (n < 0) {
            return faulted(SIZE_FAULT);
        }
        sheets[k].renew(sort, n);
        return 1;
    }

    public int lose(int k) {
        if (noSheet(k)) {
            return UNKNOWN;
        }
        int had = sheets[k].held ? 1 : 0;
        sheets[k].held = false;
        return had;
    }

    public int put(int k, int i, int v) {
        latestFault = NO_FAULT;
        if (noSheet(k)) {
            return UNKNOWN;
        }
        Sheet sheet = sheets[k];
        if (!sheet.held) {
            return faulted(NULL_FAULT);
        }
        if (i < 0 || i >= sheet.length) {
            return faulted(INDEX_FAULT);
        }
        sheet.cells[i] = sheet.cut(v);
        return 1;
    }

    public long cell(int k, int i, int sort) {
        return refusalOfCells(k, sort, i, 1) == TAKEN ? sheets[k].cells[i] : LOST;
    }

    public int copy(int k, int i, int other, int j, int n) {
        latestFault = NO_FAULT;
        if (noSheet(k) || noSheet(other)) {
            return UNKNOWN;
        }
        Sheet from = sheets[k];
        Sheet to = sheets[other];
        if (!from.held || !to.held) {
            return faulted(NULL_FAULT);
        }
        if (from.sort != to.sort) {
            return faulted(CAST_FAULT);
        }
        if (n < 0 || from.hasNot(i, n) || to.hasNot(j, n)) {
            return faulted(INDEX_FAULT);
        }
        System.arraycopy(from.cells, i, to.cells, j, n);
        return n;
    }

    public int tell(int g) {
        return noGrain(g) ? UNKNOWN : box.grains[g].told(trail);
    }

    public int sift(int g) {
        return noGrain(g) ? UNKNOWN : box.grains[g].sifted(trail);
    }

    public int as(int g, int kind) {
        latestFault = NO_FAULT;
        if (noGrain(g)) {
            return UNKNOWN;
        }
        if (kind < 0 || kind > 2) {
            return OUTSIDE;
        }
        return box.grains[g].kind < kind ? faulted(CAST_FAULT) : 1;
    }

    public int trace() {
        return trail.sum;
    }

    public int fault() {
        return latestFault;
    }

    public int many(int what) {
        switch (what) {
            case 0:
                return box.count;
            case 1:
                return box.lies;
            case 2:
                return lawCount;
            case 3:
                return readings;
            case 4:
                return shakes;
            case 5:
                return lawCount == 0 ? NONE : inForce;
            default:
                return OUTSIDE;
        }
    }

    // What the calls ask of their arguments.

    private boolean noBox() {
        return box.count == 0;
    }

    private boolean noGrain(int g) {
        return g < 0 || g >= box.count;
    }

    private boolean noPlace(int place) {
        return place < 0 || place >= box.count;
    }

    private boolean noLie(int lie) {
        return lie < 0 || lie >= box.lies;
    }

    private static boolean noHard(int hard) {
        return hard < 1 || hard > HARDEST;
    }

    private static boolean noSheet(int k) {
        return k < 0 || k >= SHEETS;
    }

    private static boolean noSort(int sort) {
        return sort < 0 || sort >= SORTS;
    }

    /** What n cells of a SHEET from i on, taken as a row of a SORT, are refused with, or their FAULT is answered by. */
    private int refusalOfCells(int k, int sort, int i, int n) {
        latestFault = NO_FAULT;
        if (noSheet(k)) {
            return UNKNOWN;
        }
        if (noSort(sort)) {
            return OUTSIDE;
        }
        Sheet row = sheets[k];
        if (row.held && row.sort != sort) {
            return faulted(CAST_FAULT);
        }
        if (!row.held) {
            return faulted(NULL_FAULT);
        }
        if (n < 0) {
            return faulted(SIZE_FAULT);
        }
        return row.hasNot(i, n) ? faulted(INDEX_FAULT) : TAKEN;
    }

    private int faulted(int fault) {
        latestFault = fault;
        return -10 - fault;
    }

    private static boolean allHard(int[] cells, int i, int n) {
        for (int c = i; c < i + n; c++) {
            if (noHard(cells[c])) {
                return false;
            }
        }
        return true;
    }

    // What several calls share.

    private Law lawInForce() {
        return lawCount == 0 ? null : laws[inForce];
    }

    private void widenRows() {
        far = wideEnough(far, box.lies);
        leap = wideEnough(leap, box.lies);
        marks = wideEnough(marks, box.lies);
        search.widen(box.lies);
    }

    /** Rows grow only with the greatest box there was, as most boxes have few LIES. */
    private static int[] wideEnough(int[] row, int lies) {
        return row.length < lies ? new int[lies] : row;
    }

    private Motion motionOf(Law law, int hard) {
        Motion motion = law.motions[hard - 1];
        if (motion.boxNumber != box.number) {
            motion.boxNumber = box.number;
            motion.rule.learn(box, law, hard, NONE);
            motion.forget(box.lies);
        }
        return motion;
    }

    private int shakeOnce(Law law, int hard) {
        Rule rule = motionOf(law, hard).rule;
        rule.changes = 0;
        lieNow = box.lieOf(rule.shaken(box.rowOf(lieNow), box.count));
        shakes++;
        return rule.changes;
    }

    private int turned(int lie) {
        return box.lieOf(box.turnedRow(box.rowOf(lie)));
    }

    private int spooned(int lie) {
        return box.lieOf(box.spoonedRow(box.rowOf(lie)));
    }

    private int measured(int lie, int what) {
        int row = box.rowOf(lie);
        return what == 0 ? box.mixOf(row) : box.partsOf(row);
    }

    // It goes by rows, not by LIES: so a LAW with a CAUSE left out needs no table of its own.
    private int soonBy(Rule rule, int g, int lie) {
        int row = box.rowOf(lie);
        int mark = NONE;
        for (int s = 0; s <= box.lies; s++) {
            if (Box.grainIn(row, box.count - 1) == g) {
                return s;
            }
            if (row == mark) {
                return NONE;
            }
            mark = isTimeToMark(s) ? row : mark;
            row = rule.shaken(row, box.count);
        }
        return NONE;
    }

    /** At powers of two: however long way and round are, some mark is in the round and kept until it comes again. */
    private static boolean isTimeToMark(int step) {
        return (step & (step - 1)) == 0;
    }

    private static int counted(int soon) {
        return soon == NONE ? NEVER : soon;
    }

    /** All LIES that come from one, in the order of length, then of rows, until the goal is come to. */
    private void spread(Law law, int from, int goal, int kinds, int most) {
        search.begin(from, box.lies);
        for (int f = 0; f < box.lies && f < search.found; f++) {
            int lie = search.queue[f];
            if (lie == goal || search.depth[lie] >= most) {
                return;
            }
            for (int by = 1; by <= kinds; by++) {
                search.reach(moved(law, lie, by), lie, by);
            }
        }
    }

    private int moved(Law law, int lie, int by) {
        if (by == TURNING) {
            return turned(lie);
        }
        return by == SPOONING ? spooned(lie) : motionOf(law, by).after(box, lie);
    }

    /** Puts into far where each LIE is behind k SHAKES; the steps double, as k may be large. */
    private void lookFar(Motion motion, int k) {
        for (int lie = 0; lie < box.lies; lie++) {
            far[lie] = lie;
            leap[lie] = motion.after(box, lie);
        }
        for (int rest = k; rest > 0; rest >>= 1) {
            if ((rest & 1) == 1) {
                for (int lie = 0; lie < box.lies; lie++) {
                    far[lie] = leap[far[lie]];
                }
            }
            for (int lie = 0; lie < box.lies; lie++) {
                marks[lie] = leap[leap[lie]];
            }
            System.arraycopy(marks, 0, leap, 0, box.lies);
        }
    }

    private static int commonDivisor(int a, int b) {
        int greater = a;
        int less = b;
        // Each round makes the numbers smaller; numbers of 32 bits need fewer than 64 rounds.
        for (int round = 0; round < 64 && less > 0; round++) {
            int rest = greater % less;
            greater = less;
            less = rest;
        }
        return greater;
    }

    private boolean isAsRead(int row) {
        for (int r = 0; r < readings; r++) {
            if (Box.grainIn(row, readPlaces[r]) != readGrains[r]) {
                return false;
            }
        }
        return true;
    }

    /** The GRAINS and their LIES. A row is one number: three bits a PLACE, the lowest PLACE in the lowest bits. */
    private static final class Box {
        /** The row of all seven GRAINS by their numbers. */
        static final int IN_ORDER = (1 << 3) | (2 << 6) | (3 << 9) | (4 << 12) | (5 << 15) | (6 << 18);

        final Grain[] grains = new Grain[MOST_GRAINS];
        int count;
        int lies;
        /** Counts the boxes, so that what was found out of an earlier one is known to be old. */
        int number;
        /** 0 where a row is not known yet: no row is 0, as no two of its GRAINS are one. */
        int[] rows = new int[0];

        static int firstFault(int[] cells, int from, int n) {
            int state = 0;
            int whole = 0;
            for (int p = 0; p < n; p++) {
                state = stateBehind(state, cells[from + p], whole);
                if (state < 0) {
                    return p;
                }
                whole += state == 3 ? 1 : 0;
            }
            return state >= 3 && whole >= FEWEST_GRAINS ? WHOLE : n;
        }

        /** 0 is ahead of g, 1 of the SIZE, 2 of the WEIGHT, 3 behind it, 4 behind l, 5 behind o; -1: a fault. */
        private static int stateBehind(int state, int code, int whole) {
            if (state == 0) {
                return code == 'g' ? 1 : -1;
            }
            if (state < 3) {
                return code >= '1' && code <= '9' ? state + 1 : -1;
            }
            if (code == ';') {
                return whole < MOST_GRAINS ? 0 : -1;
            }
            if (state == 3 && code == 'l') {
                return 4;
            }
            return state == 4 && code == 'o' ? 5 : -1;
        }

        void fill(int[] cells, int from, int n) {
            int before = count;
            count = 0;
            int c = from;
            while (c < from + n && count < MOST_GRAINS) {
                int kind = kindAt(cells, c + 3, from + n);
                grains[count] = grainOf(count, kind, cells[c + 1] - '0', cells[c + 2] - '0');
                count++;
                c += 4 + kind;
            }
            lies = FACTORIALS[count];
            number++;
            rows = wideEnough(rows, lies);
            if (count != before) {
                Arrays.fill(rows, 0);
            }
        }

        private static int kindAt(int[] cells, int c, int end) {
            if (c >= end || cells[c] != 'l') {
                return 0;
            }
            return c + 1 < end && cells[c + 1] == 'o' ? 2 : 1;
        }

        private static Grain grainOf(int number, int kind, int size, int weight) {
            if (kind == 0) {
                return new Grain(number, size, weight);
            }
            return kind == 1 ? new LongGrain(number, size, weight) : new OilyGrain(number, size, weight);
        }

        static int grainIn(int row, int place) {
            return (row >> (3 * place)) & 7;
        }

        int rowOf(int lie) {
            if (rows[lie] == 0) {
                rows[lie] = madeRow(lie);
            }
            return rows[lie];
        }

        private int madeRow(int lie) {
            int row = 0;
            int rest = lie;
            int left = IN_ORDER;
            for (int p = 0; p < count; p++) {
                int each = FACTORIALS[count - 1 - p];
                int shift = 3 * (rest / each);
                rest %= each;
                row |= ((left >> shift) & 7) << (3 * p);
                left = (left & ((1 << shift) - 1)) | ((left >> (shift + 3)) << shift);
            }
            return row;
        }

        int lieOf(int row) {
            int lie = 0;
            int left = (1 << count) - 1;
            for (int p = 0; p < count; p++) {
                int own = 1 << grainIn(row, p);
                lie += Integer.bitCount(left & (own - 1)) * FACTORIALS[count - 1 - p];
                left &= ~own;
            }
            return lie;
        }

        int placeOf(int g, int row) {
            for (int p = 0; p < count; p++) {
                if (grainIn(row, p) == g) {
                    return p;
                }
            }
            return UNKNOWN;
        }

        int turnedRow(int row) {
            int turned = 0;
            for (int p = 0; p < count; p++) {
                turned = (turned << 3) | grainIn(row, p);
            }
            return turned;
        }

        int spoonedRow(int row) {
            return (row >> 3) | (grainIn(row, 0) << (3 * (count - 1)));
        }

        private int sizeIn(int row, int place) {
            return grains[grainIn(row, place)].size;
        }

        int mixOf(int row) {
            int mix = 0;
            for (int p = 0; p + 1 < count; p++) {
                mix += Math.abs(sizeIn(row, p) - sizeIn(row, p + 1));
            }
            return mix;
        }

        int partsOf(int row) {
            int parts = 0;
            for (int above = 1; above < count; above++) {
                for (int below = 0; below < above; below++) {
                    if (sizeIn(row, above) > sizeIn(row, below)) {
                        parts++;
                    }
                }
            }
            return parts;
        }
    }

    private static class Grain {
        final int number;
        final int kind;
        final int size;
        final int weight;
        final int bulk;
        final int heft;

        Grain(int number, int size, int weight) {
            this(number, 0, size, weight, size, weight);
        }

        Grain(int number, int kind, int size, int weight, int bulk, int heft) {
            this.number = number;
            this.kind = kind;
            this.size = size;
            this.weight = weight;
            this.bulk = bulk;
            this.heft = heft;
        }

        int told(Trail trail) {
            return toldPlainly(trail);
        }

        // Apart from told, as an OILY one asks for this body past the LONG's.
        final int toldPlainly(Trail trail) {
            trail.leave(1);
            return size;
        }

        int sifted(Trail trail) {
            trail.leave(4);
            return number;
        }
    }

    private static class LongGrain extends Grain {
        LongGrain(int number, int size, int weight) {
            super(number, 1, size, weight, size - 1, weight);
        }

        LongGrain(int number, int kind, int size, int weight, int heft) {
            super(number, kind, size, weight, size - 1, heft);
        }

        int told(Trail trail) {
            trail.leave(2);
            return toldPlainly(trail) + 100;
        }
    }

    private static final class OilyGrain extends LongGrain {
        OilyGrain(int number, int size, int weight) {
            super(number, 2, size, weight, weight + 2);
        }

        int told(Trail trail) {
            trail.leave(3);
            return super.told(trail) + toldPlainly(trail);
        }

        int sifted(Trail trail) {
            trail.leave(5);
            return 50;
        }
    }

    private static final class Trail {
        int sum;

        void leave(int number) {
            sum = 31 * sum + number;
        }
    }

    private static final class Cause {
        final int letter;
        final int digit;
        final int hard;

        Cause(int letter, int digit, int hard) {
            this.letter = letter;
            this.digit = digit;
            this.hard = hard;
        }

        static int letterOf(int code) {
            for (int l = 0; l < LETTERS.length; l++) {
                if (LETTERS[l] == code) {
                    return l;
                }
            }
            return NONE;
        }

        boolean isSo(Grain x, Grain y, int place) {
            switch (letter) {
                case FALLS:
                    return x.bulk - y.bulk >= digit;
                case SINKS:
                    return y.heft - x.heft >= digit && y.heft > x.heft;
                case RISES:
                    return x.bulk >= digit && x.heft >= y.heft && x.bulk > y.bulk;
                case TILTS:
                    return x.kind > 0 && y.kind == 0 && place < digit;
                case NEAR_TOP:
                    return place >= digit;
                default:
                    return x.heft - y.heft < digit && y.heft - x.heft < digit;
            }
        }

        boolean makesChange() {
            return letter <= TILTS;
        }
    }

    private static final class Law {
        final Cause[] causes;
        final Motion[] motions = new Motion[HARDEST];

        Law(int[] cells, int from, int n) {
            causes = new Cause[(n + 1) / 4];
            for (int c = 0; c < causes.length; c++) {
                int at = from + 4 * c;
                causes[c] = new Cause(Cause.letterOf(cells[at]), cells[at + 1] - '0', cells[at + 2] - '0');
            }
            for (int h = 0; h < HARDEST; h++) {
                motions[h] = new Motion();
            }
        }

        static int firstFault(int[] cells, int from, int n) {
            for (int p = 0; p < n; p++) {
                if (!goesOn(p, cells[from + p])) {
                    return p;
                }
            }
            return n % 4 == 3 ? WHOLE : n;
        }

        private static boolean goesOn(int p, int code) {
            switch (p % 4) {
                case 0:
                    return Cause.letterOf(code) != NONE;
                case 1:
                    return code >= '0' && code <= '9';
                case 2:
                    return code >= '1' && code <= '3';
                default:
                    return code == ';' && p / 4 + 1 < MOST_CAUSES;
            }
        }

        int ruling(Grain x, Grain y, int place, int hard, int leftOut) {
            for (int c = 0; c < causes.length; c++) {
                if (c != leftOut && causes[c].hard <= hard && causes[c].isSo(x, y, place)) {
                    return c;
                }
            }
            return NONE;
        }
    }

    /** Which GRAINS CHANGE by a LAW and a HARD, found out once so that SHAKES need not ask the CAUSES. */
    private static final class Rule {
        /** At 8 x + y: bit p is set where x at PLACE p and y just above it CHANGE. */
        final int[] changing = new int[64];
        int changes;

        void learn(Box box, Law law, int hard, int leftOut) {
            for (int x = 0; x < box.count; x++) {
                for (int y = 0; y < box.count; y++) {
                    changing[8 * x + y] = 0;
                    for (int p = 0; p + 1 < box.count; p++) {
                        int ruling = law.ruling(box.grains[x], box.grains[y], p, hard, leftOut);
                        if (ruling != NONE && law.causes[ruling].makesChange()) {
                            changing[8 * x + y] |= 1 << p;
                        }
                    }
                }
            }
        }

        int shaken(int row, int count) {
            return pairsShaken(pairsShaken(row, 0, count), 1, count);
        }

        private int pairsShaken(int row, int from, int count) {
            int now = row;
            for (int p = from; p + 1 < count; p += 2) {
                int x = Box.grainIn(now, p);
                int y = Box.grainIn(now, p + 1);
                if (((changing[8 * x + y] >> p) & 1) == 1) {
                    now ^= ((x ^ y) * 9) << (3 * p);
                    changes++;
                }
            }
            return now;
        }
    }

    /** Where LIES go by a LAW and a HARD, kept as it is found out. */
    private static final class Motion {
        final Rule rule = new Rule();
        /** One more than the LIE; 0: not known yet. */
        int[] nexts = new int[0];
        int boxNumber;

        void forget(int lies) {
            nexts = wideEnough(nexts, lies);
            Arrays.fill(nexts, 0, lies, 0);
        }

        int after(Box box, int lie) {
            if (nexts[lie] == 0) {
                nexts[lie] = box.lieOf(rule.shaken(box.rowOf(lie), box.count)) + 1;
            }
            return nexts[lie] - 1;
        }
    }

    /** A search by length, then by rows: LIES come to the queue in that order. */
    private static final class Search {
        int[] queue = new int[0];
        /** -1 where a LIE is not come to. */
        int[] depth = new int[0];
        int[] cameFrom = new int[0];
        int[] cameBy = new int[0];
        int found;

        void widen(int lies) {
            queue = wideEnough(queue, lies);
            depth = wideEnough(depth, lies);
            cameFrom = wideEnough(cameFrom, lies);
            cameBy = wideEnough(cameBy, lies);
        }

        void begin(int lie, int lies) {
            Arrays.fill(depth, 0, lies, -1);
            queue[0] = lie;
            depth[lie] = 0;
            found = 1;
        }

        void reach(int lie, int from, int by) {
            if (depth[lie] >= 0) {
                return;
            }
            depth[lie] = depth[from] + 1;
            cameFrom[lie] = from;
            cameBy[lie] = by;
            queue[found] = lie;
            found++;
        }

        int stepTo(int lie, int q) {
            int now = lie;
            for (int d = depth[lie] - 1; d > q; d--) {
                now = cameFrom[now];
            }
            return q < depth[lie] ? cameBy[now] : NONE;
        }
    }

    /** What a SHEET has; cells stay when it has nothing, to be used again. */
    private static final class Sheet {
        final int[] cells = new int[MOST_CELLS];
        boolean held;
        int sort;
        int length;

        void renew(int newSort, int newLength) {
            held = true;
            sort = newSort;
            length = newLength;
            Arrays.fill(cells, 0);
        }

        int cut(int v) {
            if (sort == BYTES) {
                return (byte) v;
            }
            return sort == SHORTS ? (short) v : v;
        }

        boolean hasNot(int i, int n) {
            return i < 0 || i > length || n > length - i;
        }
    }
}
