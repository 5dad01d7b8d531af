import java.util.Arrays;

/** A camp of tents that keep the shape of the ground and press it into the next. */
public final class GroundTents {
    private static final int LOW = -1000001;
    private static final int BEYOND = 0;
    private static final int FULL = 1;
    private static final int KIND = 2;
    private static final int NONE = 3;
    private static final int STATE = 4;
    private static final int MISSING = 5;
    private static final int SIZE = 6;
    private static final int FINDINGS = 7;

    private static final int SIDE = 5;
    private static final int CELLS = 25;
    private static final int NEIGHBOURS = 4;
    private static final int PITCHES = 16;
    private static final int PIECES = 4;
    private static final int TENTS = 6;
    private static final int SPOTS = 10;
    private static final int SHEETS = 4;
    private static final int NUMBERS = 40;
    private static final int BYTES = 120;

    private static final int TENT = 0;
    private static final int STIFF = 1;
    private static final int SOFT = 2;
    private static final int PATCHED = 3;
    private static final int CHIEFS = 4;
    private static final int OLD = 5;
    private static final int LACED = 6;
    private static final int KINDS = 7;

    private static final int MOST = 99;
    private static final int LAST_DAY = 99999;
    private static final int FAR_DAYS = 100;
    private static final int NEAR_DAYS = 60;
    private static final int ROUNDS = 20;
    private static final int ODDS = 15;

    /** Stands for a finding that is not there, a tent rolled up, felt that keeps nothing, an empty spot. */
    private static final int NOTHING = -1;

    private final Camp camp = new Camp();
    private final Camp image = new Camp();
    /** What is only supposed happens here, so that no call needs new rows. */
    private final Camp trial = new Camp();
    private final Flock flock = new Flock();
    private final Tape tape = new Tape();
    private final Sheet[] sheets = new Sheet[SHEETS];
    private final int[] found = new int[FINDINGS];
    private final int[] earlier = new int[CELLS];
    private boolean imageKept = false;

    public GroundTents() {
        for (int s = 0; s < SHEETS; s++) {
            sheets[s] = new Sheet();
        }
    }

    // ---- ground, tents

    public int height(int cell, int v) {
        if (!isCell(cell) || !isMeasure(v)) {
            return finding(BEYOND);
        }
        int was = camp.heights[cell];
        camp.heights[cell] = v;
        return was;
    }

    public int spring(int cell, int v) {
        if (!isCell(cell) || !within(v, 0, 1)) {
            return finding(BEYOND);
        }
        int was = camp.springAt(cell);
        camp.setSpring(cell, v);
        return was;
    }

    public int cell(int cell, int what) {
        if (!isCell(cell)) {
            return finding(BEYOND);
        }
        switch (what) {
            case 0: return camp.heights[cell];
            case 1: return camp.springAt(cell);
            case 2: return camp.tentsOver(cell);
            case 3: return camp.steepnessAt(cell);
            default: return finding(BEYOND);
        }
    }

    public int tent(int kind) {
        if (!isKind(kind)) {
            return finding(BEYOND);
        }
        if (camp.size >= TENTS) {
            return finding(FULL);
        }
        camp.addTent(kind);
        return camp.size - 1;
    }

    public int of(int tent, int what) {
        if (!isTent(tent) || !within(what, 0, 7)) {
            return finding(BEYOND);
        }
        return camp.tents[tent].trait(what);
    }

    public int change(int tent, int what, int v) {
        if (!isTent(tent) || !Tent.mayBecome(what, v)) {
            return finding(BEYOND);
        }
        int was = camp.tents[tent].trait(what);
        camp.tents[tent].setTrait(what, v);
        return was;
    }

    public int beat(int tent) {
        if (!isTent(tent)) {
            return finding(BEYOND);
        }
        return camp.tents[tent].forget();
    }

    // ---- days

    public int go(int n) {
        if (!within(n, 1, NEAR_DAYS)) {
            return finding(BEYOND);
        }
        if (camp.day + n > LAST_DAY) {
            return finding(STATE);
        }
        camp.passDays(n);
        return camp.heightSum();
    }

    public int now(int what) {
        switch (what) {
            case 0: return camp.day;
            case 1: return camp.heightSum();
            case 2: return camp.springs;
            case 3: return camp.pitchedSet();
            case 4: return camp.wornSum();
            case 5: return camp.relief();
            default: return finding(BEYOND);
        }
    }

    // ---- flocks

    public int way(int from, int to, int climb) {
        if (!isCell(from) || !isCell(to) || !isMeasure(climb)) {
            return finding(BEYOND);
        }
        int steps = flock.stepsBetween(camp, from, to, climb);
        return steps == NOTHING ? finding(NONE) : steps;
    }

    public int climb(int from, int to) {
        if (!isCell(from) || !isCell(to)) {
            return finding(BEYOND);
        }
        return flock.leastClimb(camp, from, to);
    }

    public int reach(int from, int climb) {
        if (!isCell(from) || !isMeasure(climb)) {
            return finding(BEYOND);
        }
        flock.roam(camp, from, climb);
        return flock.reachedSet();
    }

    public int drink(int from, int climb) {
        if (!isCell(from) || !isMeasure(climb)) {
            return finding(BEYOND);
        }
        flock.roam(camp, from, climb);
        int spring = flock.nearestOf(camp.springs);
        return spring == NOTHING ? finding(NONE) : spring;
    }

    // ---- what will be (nothing changes)

    public int ahead(int cell, int n) {
        if (!isCell(cell) || !within(n, 0, FAR_DAYS)) {
            return finding(BEYOND);
        }
        trial.becomeLike(camp);
        trial.passDays(n);
        return trial.heights[cell];
    }

    public int felt(int tent, int i, int n) {
        if (!isTent(tent) || !within(i, 0, PIECES - 1) || !within(n, 0, FAR_DAYS)) {
            return finding(BEYOND);
        }
        trial.becomeLike(camp);
        trial.passDays(n);
        return trial.tents[tent].felt[i];
    }

    public int when(int from, int to, int climb) {
        if (!isCell(from) || !isCell(to) || !isMeasure(climb)) {
            return finding(BEYOND);
        }
        trial.becomeLike(camp);
        for (int n = 0; n <= FAR_DAYS; n++) {
            if (flock.stepsBetween(trial, from, to, climb) != NOTHING) {
                return n;
            }
            trial.passDay();
        }
        return finding(NONE);
    }

    public int settles() {
        trial.becomeLike(camp);
        for (int n = 0; n <= FAR_DAYS; n++) {
            System.arraycopy(trial.heights, 0, earlier, 0, CELLS);
            trial.passDay();
            if (trial.liesAs(earlier)) {
                return n;
            }
        }
        return finding(NONE);
    }

    public int lies(int tent, int d) {
        if (!isTent(tent) || !isMeasure(d)) {
            return finding(BEYOND);
        }
        if (!camp.tents[tent].isPitched()) {
            return finding(STATE);
        }
        trial.becomeLike(camp);
        for (int n = 0; n <= FAR_DAYS; n++) {
            if (trial.greatestGap(trial.tents[tent]) <= d) {
                return n;
            }
            trial.passDay();
        }
        return finding(NONE);
    }

    // ---- where to pitch, which first

    public int unlike(int tent, int pitch) {
        if (!isTent(tent) || !isPitch(pitch)) {
            return finding(BEYOND);
        }
        return camp.unlikeness(camp.tents[tent], pitch);
    }

    public int home(int tent) {
        if (!isTent(tent)) {
            return finding(BEYOND);
        }
        int best = 0;
        for (int p = 1; p < PITCHES; p++) {
            if (camp.unlikeness(camp.tents[tent], p) < camp.unlikeness(camp.tents[tent], best)) {
                best = p;
            }
        }
        return best;
    }

    public int pitchFor(int tent, int from, int to, int climb) {
        if (!isTent(tent) || !isCell(from) || !isCell(to) || !isMeasure(climb)) {
            return finding(BEYOND);
        }
        for (int p = 0; p < PITCHES; p++) {
            trial.becomeLike(camp);
            trial.tents[tent].pitch = p;
            trial.passDay();
            if (flock.stepsBetween(trial, from, to, climb) != NOTHING) {
                return p;
            }
        }
        return finding(NONE);
    }

    public int kindFor(int tent, int n) {
        if (!isTent(tent) || !within(n, 0, NEAR_DAYS)) {
            return finding(BEYOND);
        }
        int best = 0;
        int least = MOST + 1;
        for (int k = 0; k < KINDS; k++) {
            trial.becomeLike(camp);
            trial.tents[tent].kind = k;
            trial.passDays(n);
            int relief = trial.relief();
            if (relief < least) {
                least = relief;
                best = k;
            }
        }
        return best;
    }

    public int first(int a, int b, int pitch) {
        if (!isTent(a) || !isTent(b) || a == b || !isPitch(pitch)) {
            return finding(BEYOND);
        }
        return sumAfterBoth(a, b, pitch) - sumAfterBoth(b, a, pitch);
    }

    public int out(int tent, int pitch, int h, int d) {
        if (!isTent(tent) || !isPitch(pitch) || !isMeasure(h) || !isMeasure(d)) {
            return finding(BEYOND);
        }
        supposeAlone(tent, pitch);
        for (int n = 0; n <= NEAR_DAYS; n++) {
            if (trial.tents[tent].keepsNear(h, d)) {
                return n;
            }
            trial.passDay();
        }
        return finding(NONE);
    }

    // ---- what was kept

    public int fits(int s, int tent) {
        int lack = lackOf(s);
        if (lack != NOTHING) {
            return finding(lack);
        }
        if (!isTent(tent)) {
            return finding(BEYOND);
        }
        int set = 0;
        for (int p = 0; p < PITCHES; p++) {
            supposeAlone(tent, p);
            trial.passDay();
            if (sheets[s].tells(trial.tents[tent].felt)) {
                set |= 1 << p;
            }
        }
        return set;
    }

    public int kinds(int s, int tent) {
        int lack = lackOf(s);
        if (lack != NOTHING) {
            return finding(lack);
        }
        if (!isTent(tent)) {
            return finding(BEYOND);
        }
        int set = 0;
        for (int k = 0; k < KINDS; k++) {
            trial.becomeLike(camp);
            trial.tents[tent].kind = k;
            trial.passDay();
            if (sheets[s].tells(trial.tents[tent].felt)) {
                set |= 1 << k;
            }
        }
        return set;
    }

    // ---- nomads

    public int nomads(int n) {
        if (!within(n, 1, ROUNDS)) {
            return finding(BEYOND);
        }
        if (camp.day + n > LAST_DAY) {
            return finding(STATE);
        }
        for (int i = 0; i < n; i++) {
            int tent = camp.draw() % 8;
            int pitch = camp.draw() % PITCHES;
            if (isTent(tent)) {
                camp.tents[tent].pitch = pitch;
            }
            camp.passDay();
        }
        return camp.heightSum();
    }

    public long odds(int n, int what) {
        if (!within(n, 0, ODDS) || !within(what, 0, 1)) {
            return finding(BEYOND);
        }
        long above = camp.dryPitches();
        long below = PITCHES;
        // 16 has no other divisors than these, so halving is all that lowest terms ask
        for (int i = 0; i < 4 && above % 2 == 0; i++) {
            above /= 2;
            below /= 2;
        }
        return power(what == 0 ? above : below, n);
    }

    public int seed(int v) {
        int was = camp.z;
        camp.z = v;
        return was;
    }

    // ---- texts

    public int feed(int bytes, int n) {
        if (!within(n, 1, 4)) {
            return finding(BEYOND);
        }
        if (tape.length + n > BYTES) {
            return finding(FULL);
        }
        for (int i = n - 1; i >= 0; i--) {
            tape.append((bytes >>> (8 * i)) & 255);
        }
        return tape.length;
    }

    public int wipe() {
        int had = tape.length;
        tape.length = 0;
        return had;
    }

    public int text() {
        // read into the trial, so that a fault leaves the camp as it was
        trial.becomeLike(camp);
        int items = tape.readText(trial);
        tape.length = 0;
        if (items >= 0) {
            camp.becomeLike(trial);
        }
        return items;
    }

    // ---- spots, sheets

    public int hold(int spot, int tent) {
        if (!within(spot, 0, SPOTS - 1) || (tent != NOTHING && !isTent(tent))) {
            return finding(BEYOND);
        }
        camp.spots[spot] = tent;
        return 1;
    }

    public int as(int spot, int kind) {
        if (!within(spot, 0, SPOTS - 1) || !isKind(kind)) {
            return finding(BEYOND);
        }
        int tent = camp.spots[spot];
        if (!isTent(tent)) {
            return finding(MISSING);
        }
        if (!Tent.isUnder(camp.tents[tent].kind, kind)) {
            return finding(KIND);
        }
        return tent;
    }

    public int sheet(int s, int bits, int n) {
        if (!isSheet(s) || (bits != 0 && bits != 8 && bits != 16 && bits != 32)) {
            return finding(BEYOND);
        }
        if (n < 0) {
            return finding(SIZE);
        }
        if (n > NUMBERS) {
            return finding(BEYOND);
        }
        sheets[s].renew(bits, bits == 0 ? 0 : n);
        return sheets[s].size;
    }

    public int write(int s, int i, int v) {
        int lack = lackOf(s);
        if (lack != NOTHING) {
            return finding(lack);
        }
        if (!within(i, 0, sheets[s].size - 1)) {
            return finding(BEYOND);
        }
        sheets[s].put(i, v);
        return 1;
    }

    public int copy(int s, int from, int t, int to, int n) {
        if (!isSheet(s) || !isSheet(t)) {
            return finding(BEYOND);
        }
        if (sheets[s].isMissing() || sheets[t].isMissing()) {
            return finding(MISSING);
        }
        if (sheets[s].bits != sheets[t].bits) {
            return finding(KIND);
        }
        if (!sheets[s].hasRun(from, n) || !sheets[t].hasRun(to, n)) {
            return finding(BEYOND);
        }
        System.arraycopy(sheets[s].numbers, from, sheets[t].numbers, to, n);
        return n;
    }

    public int load(int s) {
        int lack = lackOf(s);
        if (lack != NOTHING) {
            return finding(lack);
        }
        int most = Math.min(sheets[s].size, CELLS);
        for (int i = 0; i < most; i++) {
            if (!isMeasure(sheets[s].numbers[i])) {
                return i;
            }
            camp.heights[i] = sheets[s].numbers[i];
        }
        return most;
    }

    public int judge(int s, int climb) {
        int lack = lackOf(s);
        if (lack != NOTHING) {
            return finding(lack);
        }
        if (!isMeasure(climb)) {
            return finding(BEYOND);
        }
        int[] numbers = sheets[s].numbers;
        for (int i = 0; i < sheets[s].size; i++) {
            if (!isCell(numbers[i]) || (i > 0 && !camp.isStep(numbers[i - 1], numbers[i], climb))) {
                return 1 + i;
            }
        }
        return 0;
    }

    // ---- images

    public int image() {
        image.becomeLike(camp);
        imageKept = true;
        return 1;
    }

    public int undo() {
        if (!imageKept) {
            return finding(NONE);
        }
        camp.becomeLike(image);
        return camp.day;
    }

    public int tear() {
        int was = imageKept ? 1 : 0;
        imageKept = false;
        return was;
    }

    public int count(int what) {
        switch (what) {
            case 0: return camp.day;
            case 1: return camp.size;
            case 2: return Integer.bitCount(camp.pitchedSet());
            case 3: return camp.wornSum();
            case 4: return camp.heightSum();
            case 5: return tape.length;
            case 6: return camp.z;
            case 7: return camp.spotsHeld();
            default: return finding(BEYOND);
        }
    }

    public int status(int which) {
        if (!within(which, -1, FINDINGS - 1)) {
            return finding(BEYOND);
        }
        if (which >= 0) {
            return found[which];
        }
        int all = 0;
        for (int f = 0; f < FINDINGS; f++) {
            all += found[f];
        }
        return all;
    }

    // ---- what the calls share

    private int finding(int which) {
        if (within(which, 0, FINDINGS - 1)) {
            found[which]++;
        }
        return LOW - which;
    }

    private static boolean within(int v, int least, int most) {
        return v >= least && v <= most;
    }

    private static boolean isCell(int cell) {
        return within(cell, 0, CELLS - 1);
    }

    private static boolean isPitch(int pitch) {
        return within(pitch, 0, PITCHES - 1);
    }

    private static boolean isKind(int kind) {
        return within(kind, 0, KINDS - 1);
    }

    private static boolean isSheet(int s) {
        return within(s, 0, SHEETS - 1);
    }

    /** Heights, climbs, differences and wear are all told from 0 to 99. */
    private static boolean isMeasure(int v) {
        return within(v, 0, MOST);
    }

    private boolean isTent(int tent) {
        return within(tent, 0, camp.size - 1);
    }

    private int lackOf(int s) {
        if (!isSheet(s)) {
            return BEYOND;
        }
        return sheets[s].isMissing() ? MISSING : NOTHING;
    }

    private void supposeAlone(int tent, int pitch) {
        trial.becomeLike(camp);
        trial.pitchAlone(tent, pitch);
    }

    private int sumAfterBoth(int earlierTent, int laterTent, int pitch) {
        supposeAlone(earlierTent, pitch);
        trial.passDay();
        trial.pitchAlone(laterTent, pitch);
        trial.passDay();
        return trial.heightSum();
    }

    private static long power(long base, int exponent) {
        long product = 1;
        for (int i = 0; i < exponent; i++) {
            product *= base;
        }
        return product;
    }

    private static int cellUnder(int pitch, int piece) {
        return SIDE * (pitch / 4 + piece / 2) + pitch % 4 + piece % 2;
    }

    /** The neighbour of a cell to one of four sides, or NOTHING where the ground ends. */
    private static int neighbour(int cell, int side) {
        int row = cell / SIDE;
        int column = cell % SIDE;
        switch (side) {
            case 0: return row > 0 ? cell - SIDE : NOTHING;
            case 1: return column > 0 ? cell - 1 : NOTHING;
            case 2: return column < SIDE - 1 ? cell + 1 : NOTHING;
            case 3: return row < SIDE - 1 ? cell + SIDE : NOTHING;
            default: return NOTHING;
        }
    }

    /** One tent: what it is, where it stands, and what its four pieces of felt keep. */
    private static final class Tent {
        private int kind = TENT;
        private int pitch = NOTHING;
        private int worn = 0;
        private final int[] felt = new int[PIECES];

        private void renew(int newKind) {
            kind = newKind;
            pitch = NOTHING;
            worn = 0;
            Arrays.fill(felt, NOTHING);
        }

        private void becomeLike(Tent other) {
            kind = other.kind;
            pitch = other.pitch;
            worn = other.worn;
            System.arraycopy(other.felt, 0, felt, 0, PIECES);
        }

        private boolean isPitched() {
            return isPitch(pitch);
        }

        private int trait(int what) {
            switch (what) {
                case 0: return kind;
                case 1: return pitch;
                case 2: return worn;
                case 3: return wear();
                default: return within(what, 4, 7) ? felt[what - 4] : NOTHING;
            }
        }

        private static boolean mayBecome(int what, int v) {
            switch (what) {
                case 0: return isKind(v);
                case 1: return v == NOTHING || isPitch(v);
                case 2: return isMeasure(v);
                default: return within(what, 4, 7) && (v == NOTHING || isMeasure(v));
            }
        }

        private void setTrait(int what, int v) {
            switch (what) {
                case 0: kind = v; break;
                case 1: pitch = v; break;
                case 2: worn = v; break;
                default:
                    if (within(what, 4, 7)) {
                        felt[what - 4] = v;
                    }
            }
        }

        private int forget() {
            int kept = 0;
            for (int i = 0; i < PIECES; i++) {
                if (felt[i] != NOTHING) {
                    kept++;
                    felt[i] = NOTHING;
                }
            }
            return kept;
        }

        private boolean keepsNear(int h, int d) {
            for (int i = 0; i < PIECES; i++) {
                if (felt[i] == NOTHING || Math.abs(felt[i] - h) > d) {
                    return false;
                }
            }
            return true;
        }

        private void wearOut() {
            worn = Math.min(MOST, worn + wear());
        }

        private int wear() {
            switch (kind) {
                case STIFF: return 2;
                case LACED: return 4;
                case CHIEFS: return 0;
                case OLD: return 5;
                default: return 1;
            }
        }

        private int pressed(int f, int g) {
            switch (kind) {
                case STIFF: return f;
                case LACED: return Math.min(MOST, f + 1);
                case SOFT: return g;
                case PATCHED: return patchedPress(f, g);
                case CHIEFS: return Math.min(MOST, patchedPress(f, g) + 3);
                case OLD: return (f + 3 * g) / 4;
                default: return (f + g) / 2;
            }
        }

        private static int patchedPress(int f, int g) {
            return f > g ? g + 1 : g;
        }

        private int taken(int f, int g) {
            switch (kind) {
                case STIFF: return f;
                case LACED: return f;
                case SOFT: return g;
                case CHIEFS: return Math.min(MOST, (g + f) / 2 + 1);
                case OLD: return worn < 50 ? f : g;
                default: return (f + g) / 2;
            }
        }

        private static boolean isUnder(int kind, int above) {
            int at = kind;
            for (int i = 0; i < KINDS && at != NOTHING; i++) {
                if (at == above) {
                    return true;
                }
                at = kindAbove(at);
            }
            return false;
        }

        private static int kindAbove(int kind) {
            switch (kind) {
                case STIFF: return TENT;
                case SOFT: return TENT;
                case OLD: return TENT;
                case PATCHED: return SOFT;
                case CHIEFS: return PATCHED;
                case LACED: return STIFF;
                default: return NOTHING;
            }
        }
    }

    /** All that an image keeps: ground, tents, the day, the draws and the spots. */
    private static final class Camp {
        private final int[] heights = new int[CELLS];
        private final int[] spots = new int[SPOTS];
        private final Tent[] tents = new Tent[TENTS];
        private int size = 0;
        private int springs = 0;
        private int day = 0;
        private int z = 1;

        private Camp() {
            Arrays.fill(heights, 50);
            Arrays.fill(spots, NOTHING);
            for (int t = 0; t < TENTS; t++) {
                tents[t] = new Tent();
            }
        }

        private void becomeLike(Camp other) {
            System.arraycopy(other.heights, 0, heights, 0, CELLS);
            System.arraycopy(other.spots, 0, spots, 0, SPOTS);
            size = other.size;
            for (int t = 0; t < size; t++) {
                tents[t].becomeLike(other.tents[t]);
            }
            springs = other.springs;
            day = other.day;
            z = other.z;
        }

        /** The caller has seen that there is room. */
        private void addTent(int kind) {
            if (size < TENTS) {
                tents[size].renew(kind);
                size++;
            }
        }

        private void pitchAlone(int tent, int pitch) {
            for (int t = 0; t < size; t++) {
                tents[t].pitch = t == tent ? pitch : NOTHING;
            }
        }

        private int draw() {
            z = z * 1103515245 + 12345;
            return z >>> 8;
        }

        private void passDays(int n) {
            for (int i = 0; i < n; i++) {
                passDay();
            }
        }

        private void passDay() {
            for (int t = 0; t < size; t++) {
                if (tents[t].isPitched()) {
                    pressAndTake(tents[t]);
                    tents[t].wearOut();
                }
            }
            if (day < LAST_DAY) {
                day++;
            }
        }

        private void pressAndTake(Tent tent) {
            for (int i = 0; i < PIECES; i++) {
                int under = cellUnder(tent.pitch, i);
                int f = tent.felt[i];
                int g = heights[under];
                if (f == NOTHING) {
                    tent.felt[i] = g;
                } else {
                    heights[under] = tent.pressed(f, g);
                    tent.felt[i] = tent.taken(f, g);
                }
            }
        }

        private int springAt(int cell) {
            return (springs >>> cell) & 1;
        }

        private void setSpring(int cell, int v) {
            if (v == 1) {
                springs |= 1 << cell;
            } else {
                springs &= ~(1 << cell);
            }
        }

        private int tentsOver(int cell) {
            int set = 0;
            for (int t = 0; t < size; t++) {
                if (tents[t].isPitched() && (cellsUnder(tents[t].pitch) >>> cell & 1) == 1) {
                    set |= 1 << t;
                }
            }
            return set;
        }

        private static int cellsUnder(int pitch) {
            int set = 0;
            for (int i = 0; i < PIECES; i++) {
                set |= 1 << cellUnder(pitch, i);
            }
            return set;
        }

        private int dryPitches() {
            int dry = 0;
            for (int p = 0; p < PITCHES; p++) {
                if ((cellsUnder(p) & springs) == 0) {
                    dry++;
                }
            }
            return dry;
        }

        private int steepnessAt(int cell) {
            int greatest = 0;
            for (int side = 0; side < NEIGHBOURS; side++) {
                int other = neighbour(cell, side);
                if (other != NOTHING) {
                    greatest = Math.max(greatest, climbBetween(cell, other));
                }
            }
            return greatest;
        }

        private int climbBetween(int cell, int other) {
            return Math.abs(heights[cell] - heights[other]);
        }

        private boolean isStep(int cell, int other, int climb) {
            for (int side = 0; side < NEIGHBOURS; side++) {
                if (neighbour(cell, side) == other) {
                    return climbBetween(cell, other) <= climb;
                }
            }
            return false;
        }

        private int heightSum() {
            int sum = 0;
            for (int c = 0; c < CELLS; c++) {
                sum += heights[c];
            }
            return sum;
        }

        private int relief() {
            int greatest = heights[0];
            int least = heights[0];
            for (int c = 1; c < CELLS; c++) {
                greatest = Math.max(greatest, heights[c]);
                least = Math.min(least, heights[c]);
            }
            return greatest - least;
        }

        private boolean liesAs(int[] others) {
            for (int c = 0; c < CELLS; c++) {
                if (heights[c] != others[c]) {
                    return false;
                }
            }
            return true;
        }

        private int pitchedSet() {
            int set = 0;
            for (int t = 0; t < size; t++) {
                if (tents[t].isPitched()) {
                    set |= 1 << t;
                }
            }
            return set;
        }

        private int wornSum() {
            int sum = 0;
            for (int t = 0; t < size; t++) {
                sum += tents[t].worn;
            }
            return sum;
        }

        private int spotsHeld() {
            int held = 0;
            for (int s = 0; s < SPOTS; s++) {
                if (spots[s] != NOTHING) {
                    held++;
                }
            }
            return held;
        }

        private int gap(Tent tent, int piece, int pitch) {
            if (tent.felt[piece] == NOTHING) {
                return 0;
            }
            return Math.abs(tent.felt[piece] - heights[cellUnder(pitch, piece)]);
        }

        private int unlikeness(Tent tent, int pitch) {
            int sum = 0;
            for (int i = 0; i < PIECES; i++) {
                sum += gap(tent, i, pitch);
            }
            return sum;
        }

        /** For a tent that is pitched: how far its felt is from the ground beneath, at most. */
        private int greatestGap(Tent tent) {
            int greatest = 0;
            for (int i = 0; i < PIECES; i++) {
                greatest = Math.max(greatest, gap(tent, i, tent.pitch));
            }
            return greatest;
        }
    }

    /** Finds ways; its rows are made once and used by each search. */
    private static final class Flock {
        private final int[] steps = new int[CELLS];
        private final int[] queue = new int[CELLS];
        private final int[] needs = new int[CELLS];
        private int settled = 0;

        private int stepsBetween(Camp camp, int from, int to, int climb) {
            roam(camp, from, climb);
            return steps[to];
        }

        private void roam(Camp camp, int from, int climb) {
            Arrays.fill(steps, NOTHING);
            steps[from] = 0;
            queue[0] = from;
            int tail = 1;
            for (int head = 0; head < tail && head < CELLS; head++) {
                int cell = queue[head];
                for (int side = 0; side < NEIGHBOURS; side++) {
                    int other = neighbour(cell, side);
                    if (other != NOTHING && steps[other] == NOTHING && tail < CELLS
                            && camp.climbBetween(cell, other) <= climb) {
                        steps[other] = steps[cell] + 1;
                        queue[tail] = other;
                        tail++;
                    }
                }
            }
        }

        private int reachedSet() {
            int set = 0;
            for (int c = 0; c < CELLS; c++) {
                if (steps[c] != NOTHING) {
                    set |= 1 << c;
                }
            }
            return set;
        }

        private int nearestOf(int cells) {
            int best = NOTHING;
            for (int c = 0; c < CELLS; c++) {
                boolean reached = (cells >>> c & 1) == 1 && steps[c] != NOTHING;
                if (reached && (best == NOTHING || steps[c] < steps[best])) {
                    best = c;
                }
            }
            return best;
        }

        /** Takes in, again and again, the cell that asks for the least climb from those taken in. */
        private int leastClimb(Camp camp, int from, int to) {
            Arrays.fill(needs, MOST);
            needs[from] = 0;
            settled = 0;
            for (int round = 0; round < CELLS && !isSettled(to); round++) {
                int cell = easiest();
                settled |= 1 << cell;
                for (int side = 0; side < NEIGHBOURS; side++) {
                    int other = neighbour(cell, side);
                    if (other != NOTHING && !isSettled(other)) {
                        int need = Math.max(needs[cell], camp.climbBetween(cell, other));
                        needs[other] = Math.min(needs[other], need);
                    }
                }
            }
            return needs[to];
        }

        private boolean isSettled(int cell) {
            return (settled >>> cell & 1) == 1;
        }

        private int easiest() {
            int best = 0;
            for (int c = 1; c < CELLS; c++) {
                if (!isSettled(c) && (isSettled(best) || needs[c] < needs[best])) {
                    best = c;
                }
            }
            return best;
        }
    }

    /** A row of numbers of 8, 16 or 32 bits; of 0 bits while it is missing. */
    private static final class Sheet {
        private int bits = 0;
        private int size = 0;
        private final int[] numbers = new int[NUMBERS];

        private boolean isMissing() {
            return bits == 0;
        }

        private void renew(int newBits, int newSize) {
            bits = newBits;
            size = newSize;
            Arrays.fill(numbers, 0);
        }

        private void put(int i, int v) {
            switch (bits) {
                case 8: numbers[i] = (byte) v; break;
                case 16: numbers[i] = (short) v; break;
                default: numbers[i] = v;
            }
        }

        private boolean hasRun(int from, int n) {
            return from >= 0 && n >= 0 && n <= size && from <= size - n;
        }

        private boolean tells(int[] felt) {
            for (int i = 0; i < PIECES && i < size; i++) {
                if (numbers[i] != -1 && numbers[i] != felt[i]) {
                    return false;
                }
            }
            return true;
        }
    }

    /** The bytes that were fed, and the reader of the text that they make. */
    private static final class Tape {
        private static final int END = 0;
        private static final int WORD = 1;
        private static final int NUMBER = 2;
        private static final int SIGN = 3;
        private static final int STRANGE = 4;
        private static final int MOST_READ = 999;

        private final int[] bytes = new int[BYTES];
        private int length = 0;
        /** The token at hand: its sort, its first byte's place, the place behind it, a number's value. */
        private int sort = END;
        private int begin = 0;
        private int end = 0;
        private int value = 0;

        private void append(int b) {
            if (length < BYTES) {
                bytes[length] = b;
                length++;
            }
        }

        /** Puts a text into a camp: how many items, or -1 less the fault. */
        private int readText(Camp camp) {
            end = 0;
            nextToken();
            for (int items = 1; items <= BYTES; items++) {
                if (!readItem(camp)) {
                    return -1 - begin;
                }
                if (sort == END) {
                    return items;
                }
                if (sort != SIGN) {
                    return -1 - begin;
                }
                nextToken();
            }
            return -1 - begin;
        }

        // Each reader below answers false when the token at hand can't stand there.

        private boolean readItem(Camp camp) {
            for (int kind = 0; kind < KINDS; kind++) {
                if (isWord(nameOf(kind))) {
                    return readTent(camp, kind);
                }
            }
            if (isWord("height")) {
                return readHeight(camp);
            }
            if (isWord("spring")) {
                return readSpring(camp, 1);
            }
            return isWord("dry") && readSpring(camp, 0);
        }

        private static String nameOf(int kind) {
            switch (kind) {
                case STIFF: return "stiff";
                case SOFT: return "soft";
                case PATCHED: return "patched";
                case CHIEFS: return "chiefs";
                case OLD: return "old";
                case LACED: return "laced";
                default: return "tent";
            }
        }

        private boolean readTent(Camp camp, int kind) {
            if (camp.size >= TENTS) {
                return false;
            }
            Tent tent = camp.tents[camp.size];
            camp.addTent(kind);
            nextToken();
            return readPitch(tent) && readWorn(tent) && readFelt(tent);
        }

        private boolean readPitch(Tent tent) {
            if (!isWord("on")) {
                return true;
            }
            nextToken();
            if (!isNumberTo(PITCHES - 1)) {
                return false;
            }
            tent.pitch = value;
            nextToken();
            return true;
        }

        private boolean readWorn(Tent tent) {
            if (!isWord("worn")) {
                return true;
            }
            nextToken();
            if (!isNumberTo(MOST)) {
                return false;
            }
            tent.worn = value;
            nextToken();
            return true;
        }

        private boolean readFelt(Tent tent) {
            if (!isWord("felt")) {
                return true;
            }
            nextToken();
            for (int i = 0; i < PIECES; i++) {
                if (!isNumberTo(MOST)) {
                    return false;
                }
                tent.felt[i] = value;
                nextToken();
            }
            return true;
        }

        private boolean readHeight(Camp camp) {
            nextToken();
            if (!isNumberTo(CELLS - 1)) {
                return false;
            }
            int cell = value;
            nextToken();
            if (!isNumberTo(MOST)) {
                return false;
            }
            camp.heights[cell] = value;
            nextToken();
            return true;
        }

        private boolean readSpring(Camp camp, int v) {
            nextToken();
            if (!isNumberTo(CELLS - 1)) {
                return false;
            }
            camp.setSpring(value, v);
            nextToken();
            return true;
        }

        private boolean isNumberTo(int most) {
            return sort == NUMBER && within(value, 0, most);
        }

        private boolean isWord(String word) {
            if (sort != WORD || end - begin != word.length()) {
                return false;
            }
            for (int i = 0; i < word.length(); i++) {
                if (bytes[begin + i] != word.charAt(i)) {
                    return false;
                }
            }
            return true;
        }

        private void nextToken() {
            begin = end;
            while (begin < length && bytes[begin] == ' ') {
                begin++;
            }
            end = begin;
            sort = sortAt(begin);
            if (sort == END) {
                return;
            }
            end++;
            while ((sort == WORD || sort == NUMBER) && end < length && sortAt(end) == sort) {
                end++;
            }
            value = sort == NUMBER ? numberAtHand() : 0;
        }

        private int sortAt(int place) {
            if (place >= length) {
                return END;
            }
            int b = bytes[place];
            if (b >= 'a' && b <= 'z') {
                return WORD;
            }
            if (b >= '0' && b <= '9') {
                return NUMBER;
            }
            return b == ';' ? SIGN : STRANGE;
        }

        private int numberAtHand() {
            int number = 0;
            for (int place = begin; place < end; place++) {
                // goes no further once it is too great, as it would wrap around into what is allowed
                if (number <= MOST_READ) {
                    number = number * 10 + bytes[place] - '0';
                }
            }
            return number;
        }
    }
}
