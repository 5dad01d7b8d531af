import java.math.BigInteger;
import java.util.ArrayList;
import java.util.Arrays;
import java.util.List;
import java.util.regex.Matcher;
import java.util.regex.Pattern;

/**
 * The document once more, written apart from the class and in other ways (copies, lists, exceptions,
 * all pairs of cells at once, patterns), so that a slip in one of the two shows as a difference.
 */
final class Model {
    private static final int BEYOND = 0, FULL = 1, KIND = 2, NONE = 3, STATE = 4, MISSING = 5, SIZE = 6;
    private static final List<String> NAMES = List.of("tent", "stiff", "soft", "patched", "chiefs", "old", "laced");
    private static final int[] PARENTS = {-1, 0, 0, 2, 3, 0, 1};

    private static final class Finding extends RuntimeException {
        private static final long serialVersionUID = 1L;
        final int which;

        Finding(int which) {
            super(null, null, false, false);
            this.which = which;
        }
    }

    private static final class Fault extends RuntimeException {
        private static final long serialVersionUID = 1L;
        final int place;

        Fault(int place) {
            super(null, null, false, false);
            this.place = place;
        }
    }

    private record Token(String text, int place) {
    }

    private static final class Tent {
        int kind;
        int pitch = -1;
        int worn = 0;
        int[] felt = {-1, -1, -1, -1};

        Tent(int kind) {
            this.kind = kind;
        }

        Tent copy() {
            Tent t = new Tent(kind);
            t.pitch = pitch;
            t.worn = worn;
            t.felt = felt.clone();
            return t;
        }

        int press(int k, int f, int g) {
            return switch (k) {
                case 0 -> (f + g) / 2;
                case 1 -> f;
                case 2 -> g;
                case 3 -> press(2, f, g) + (f > g ? 1 : 0);
                case 4 -> press(3, f, g) + 3;
                case 5 -> (f + 3 * g) / 4;
                default -> press(1, f, g) + 1;
            };
        }

        int take(int k, int f, int g) {
            return switch (k) {
                case 0 -> (f + g) / 2;
                case 1 -> f;
                case 2 -> g;
                case 3 -> (take(2, f, g) + f) / 2;
                case 4 -> take(3, f, g) + 1;
                case 5 -> worn < 50 ? f : g;
                default -> take(1, f, g);
            };
        }

        int wears(int k) {
            return switch (k) {
                case 1 -> wears(0) + 1;
                case 2, 3 -> wears(0);
                case 4 -> 0;
                case 5 -> 5;
                case 6 -> 2 * wears(1);
                default -> 1;
            };
        }
    }

    private static final class World {
        int[] height = new int[25];
        boolean[] spring = new boolean[25];
        List<Tent> tents = new ArrayList<>();
        int day = 0;
        int z = 1;
        int[] spots = new int[10];

        World() {
            Arrays.fill(height, 50);
            Arrays.fill(spots, -1);
        }

        World copy() {
            World w = new World();
            w.height = height.clone();
            w.spring = spring.clone();
            for (Tent t : tents) {
                w.tents.add(t.copy());
            }
            w.day = day;
            w.z = z;
            w.spots = spots.clone();
            return w;
        }

        World after(int days) {
            World w = copy();
            for (int i = 0; i < days; i++) {
                w.pass();
            }
            return w;
        }

        World alone(int tent, int pitch) {
            World w = copy();
            w.tents.forEach(t -> t.pitch = -1);
            w.tents.get(tent).pitch = pitch;
            return w;
        }

        World withKind(int tent, int kind) {
            World w = copy();
            w.tents.get(tent).kind = kind;
            return w;
        }

        void pass() {
            for (Tent t : tents) {
                if (t.pitch < 0) {
                    continue;
                }
                int[] ground = height.clone();
                int[] felt = t.felt.clone();
                int[] cells = cells(t.pitch);
                for (int i = 0; i < 4; i++) {
                    int g = ground[cells[i]];
                    int f = felt[i];
                    height[cells[i]] = f < 0 ? g : Math.max(0, Math.min(99, t.press(t.kind, f, g)));
                    t.felt[i] = f < 0 ? g : Math.max(0, Math.min(99, t.take(t.kind, f, g)));
                }
                t.worn = Math.min(99, t.worn + t.wears(t.kind));
            }
            day = Math.min(99999, day + 1);
        }

        int sum() {
            return Arrays.stream(height).sum();
        }

        int spread() {
            return Arrays.stream(height).max().getAsInt() - Arrays.stream(height).min().getAsInt();
        }

        int worn() {
            return tents.stream().mapToInt(t -> t.worn).sum();
        }

        /** Steps between all cells, 1000 where there is no way: Floyd's, not a search. */
        int[][] steps(int climb) {
            int[][] d = new int[25][25];
            for (int a = 0; a < 25; a++) {
                for (int b = 0; b < 25; b++) {
                    boolean step = beside(a, b) && Math.abs(height[a] - height[b]) <= climb;
                    d[a][b] = a == b ? 0 : step ? 1 : 1000;
                }
            }
            for (int k = 0; k < 25; k++) {
                for (int a = 0; a < 25; a++) {
                    for (int b = 0; b < 25; b++) {
                        d[a][b] = Math.min(d[a][b], d[a][k] + d[k][b]);
                    }
                }
            }
            return d;
        }

        boolean hasWay(int from, int to, int climb) {
            return steps(climb)[from][to] < 1000;
        }

        int unlike(int tent, int pitch) {
            int sum = 0;
            for (int i = 0; i < 4; i++) {
                int f = tents.get(tent).felt[i];
                sum += f < 0 ? 0 : Math.abs(f - height[cells(pitch)[i]]);
            }
            return sum;
        }

        int draw() {
            z = z * 1103515245 + 12345;
            return z >>> 8;
        }
    }

    private World world = new World();
    private World kept = null;
    private String tape = "";
    private final int[][] sheets = new int[4][];
    private final int[] bits = new int[4];
    private final int[] found = new int[7];

    private static boolean beside(int a, int b) {
        return Math.abs(a / 5 - b / 5) + Math.abs(a % 5 - b % 5) == 1;
    }

    private static int[] cells(int pitch) {
        int c = pitch / 4 * 5 + pitch % 4;
        return new int[] {c, c + 1, c + 5, c + 6};
    }

    private static void ask(boolean ok, int which) {
        if (!ok) {
            throw new Finding(which);
        }
    }

    private static void range(int v, int least, int most) {
        ask(v >= least && v <= most, BEYOND);
    }

    private Tent theTent(int t) {
        range(t, 0, world.tents.size() - 1);
        return world.tents.get(t);
    }

    private int[] theSheet(int s) {
        range(s, 0, 3);
        ask(sheets[s] != null, MISSING);
        return sheets[s];
    }

    private static int set(java.util.function.IntPredicate p, int n) {
        int set = 0;
        for (int i = 0; i < n; i++) {
            if (p.test(i)) {
                set |= 1 << i;
            }
        }
        return set;
    }

    private static int least(java.util.function.IntPredicate p, int n) {
        for (int i = 0; i < n; i++) {
            if (p.test(i)) {
                return i;
            }
        }
        throw new Finding(NONE);
    }

    long call(String name, int[] a) {
        try {
            return answer(name, a);
        } catch (Finding f) {
            found[f.which]++;
            return -1000001 - f.which;
        }
    }

    private long answer(String name, int[] a) {
        switch (name) {
            case "height": case "spring": case "cell": case "tent": case "of": case "change": case "beat":
                return groundOrTents(name, a);
            case "go": case "now": case "way": case "climb": case "reach": case "drink":
                return daysOrFlocks(name, a);
            case "ahead": case "felt": case "when": case "settles": case "lies":
                return whatWillBe(name, a);
            case "unlike": case "home": case "pitchFor": case "kindFor": case "first": case "out": case "fits": case "kinds":
                return whereToPitch(name, a);
            case "nomads": case "odds": case "seed": case "feed": case "wipe": case "text":
                return nomadsOrTexts(name, a);
            case "hold": case "as": case "sheet": case "write": case "copy": case "load": case "judge":
                return spotsOrSheets(name, a);
            default:
                return images(name, a);
        }
    }

    private long groundOrTents(String name, int[] a) {
        switch (name) {
            case "height": {
                range(a[0], 0, 24);
                range(a[1], 0, 99);
                int was = world.height[a[0]];
                world.height[a[0]] = a[1];
                return was;
            }
            case "spring": {
                range(a[0], 0, 24);
                range(a[1], 0, 1);
                boolean was = world.spring[a[0]];
                world.spring[a[0]] = a[1] == 1;
                return was ? 1 : 0;
            }
            case "cell":
                range(a[0], 0, 24);
                range(a[1], 0, 3);
                return switch (a[1]) {
                    case 0 -> world.height[a[0]];
                    case 1 -> world.spring[a[0]] ? 1 : 0;
                    case 2 -> set(t -> world.tents.get(t).pitch >= 0
                        && Arrays.stream(cells(world.tents.get(t).pitch)).anyMatch(c -> c == a[0]), world.tents.size());
                    default -> java.util.stream.IntStream.range(0, 25).filter(c -> beside(c, a[0]))
                        .map(c -> Math.abs(world.height[c] - world.height[a[0]])).max().getAsInt();
                };
            case "tent":
                range(a[0], 0, 6);
                ask(world.tents.size() < 6, FULL);
                world.tents.add(new Tent(a[0]));
                return world.tents.size() - 1;
            case "of": {
                Tent t = theTent(a[0]);
                range(a[1], 0, 7);
                return new int[] {t.kind, t.pitch, t.worn, t.wears(t.kind), t.felt[0], t.felt[1], t.felt[2], t.felt[3]}[a[1]];
            }
            case "change":
                return changed(theTent(a[0]), a[1], a[2]);
            default: {
                Tent t = theTent(a[0]);
                long kept = Arrays.stream(t.felt).filter(f -> f >= 0).count();
                t.felt = new int[] {-1, -1, -1, -1};
                return kept;
            }
        }
    }

    private static int changed(Tent t, int what, int v) {
        int was;
        switch (what) {
            case 0:
                range(v, 0, 6);
                was = t.kind;
                t.kind = v;
                return was;
            case 1:
                range(v, -1, 15);
                was = t.pitch;
                t.pitch = v;
                return was;
            case 2:
                range(v, 0, 99);
                was = t.worn;
                t.worn = v;
                return was;
            case 4: case 5: case 6: case 7:
                range(v, -1, 99);
                was = t.felt[what - 4];
                t.felt[what - 4] = v;
                return was;
            default:
                throw new Finding(BEYOND);
        }
    }

    private long daysOrFlocks(String name, int[] a) {
        switch (name) {
            case "go":
                range(a[0], 1, 60);
                ask(world.day + a[0] <= 99999, STATE);
                world = world.after(a[0]);
                return world.sum();
            case "now":
                range(a[0], 0, 5);
                return switch (a[0]) {
                    case 0 -> world.day;
                    case 1 -> world.sum();
                    case 2 -> set(c -> world.spring[c], 25);
                    case 3 -> set(t -> world.tents.get(t).pitch >= 0, world.tents.size());
                    case 4 -> world.worn();
                    default -> world.spread();
                };
            case "way": {
                range(a[0], 0, 24);
                range(a[1], 0, 24);
                range(a[2], 0, 99);
                int steps = world.steps(a[2])[a[0]][a[1]];
                ask(steps < 1000, NONE);
                return steps;
            }
            case "climb":
                range(a[0], 0, 24);
                range(a[1], 0, 24);
                return least(c -> world.hasWay(a[0], a[1], c), 100);
            case "reach": {
                range(a[0], 0, 24);
                range(a[1], 0, 99);
                int[] steps = world.steps(a[1])[a[0]];
                return set(c -> steps[c] < 1000, 25);
            }
            default: {
                range(a[0], 0, 24);
                range(a[1], 0, 99);
                int[] steps = world.steps(a[1])[a[0]];
                int fewest = java.util.stream.IntStream.range(0, 25).filter(c -> world.spring[c])
                    .map(c -> steps[c]).min().orElse(1000);
                ask(fewest < 1000, NONE);
                return least(c -> world.spring[c] && steps[c] == fewest, 25);
            }
        }
    }

    private long whatWillBe(String name, int[] a) {
        switch (name) {
            case "ahead":
                range(a[0], 0, 24);
                range(a[1], 0, 100);
                return world.after(a[1]).height[a[0]];
            case "felt":
                theTent(a[0]);
                range(a[1], 0, 3);
                range(a[2], 0, 100);
                return world.after(a[2]).tents.get(a[0]).felt[a[1]];
            case "when": {
                range(a[0], 0, 24);
                range(a[1], 0, 24);
                range(a[2], 0, 99);
                World[] days = days(world, 100);
                return least(n -> days[n].hasWay(a[0], a[1], a[2]), 101);
            }
            case "settles": {
                World[] days = days(world, 101);
                return least(n -> Arrays.equals(days[n].height, days[n + 1].height), 101);
            }
            default: {
                Tent t = theTent(a[0]);
                range(a[1], 0, 99);
                ask(t.pitch >= 0, STATE);
                World[] days = days(world, 100);
                return least(n -> liesLevel(days[n], a[0], a[1]), 101);
            }
        }
    }

    private static World[] days(World from, int n) {
        World[] days = new World[n + 1];
        days[0] = from;
        for (int i = 1; i <= n; i++) {
            days[i] = days[i - 1].after(1);
        }
        return days;
    }

    private static boolean liesLevel(World w, int tent, int d) {
        Tent t = w.tents.get(tent);
        for (int i = 0; i < 4; i++) {
            if (t.felt[i] >= 0 && Math.abs(t.felt[i] - w.height[cells(t.pitch)[i]]) > d) {
                return false;
            }
        }
        return true;
    }

    private long whereToPitch(String name, int[] a) {
        switch (name) {
            case "unlike":
                theTent(a[0]);
                range(a[1], 0, 15);
                return world.unlike(a[0], a[1]);
            case "home": {
                theTent(a[0]);
                int fewest = java.util.stream.IntStream.range(0, 16).map(p -> world.unlike(a[0], p)).min().getAsInt();
                return least(p -> world.unlike(a[0], p) == fewest, 16);
            }
            case "pitchFor":
                theTent(a[0]);
                range(a[1], 0, 24);
                range(a[2], 0, 24);
                range(a[3], 0, 99);
                return least(p -> {
                    World w = world.copy();
                    w.tents.get(a[0]).pitch = p;
                    return w.after(1).hasWay(a[1], a[2], a[3]);
                }, 16);
            case "kindFor": {
                theTent(a[0]);
                range(a[1], 0, 60);
                int[] spreads = new int[7];
                for (int k = 0; k < 7; k++) {
                    spreads[k] = world.withKind(a[0], k).after(a[1]).spread();
                }
                int fewest = Arrays.stream(spreads).min().getAsInt();
                return least(k -> spreads[k] == fewest, 7);
            }
            case "first":
                theTent(a[0]);
                theTent(a[1]);
                ask(a[0] != a[1], BEYOND);
                range(a[2], 0, 15);
                return world.alone(a[0], a[2]).after(1).alone(a[1], a[2]).after(1).sum()
                    - world.alone(a[1], a[2]).after(1).alone(a[0], a[2]).after(1).sum();
            case "out": {
                theTent(a[0]);
                range(a[1], 0, 15);
                range(a[2], 0, 99);
                range(a[3], 0, 99);
                World[] days = days(world.alone(a[0], a[1]), 60);
                return least(n -> Arrays.stream(days[n].tents.get(a[0]).felt)
                    .allMatch(f -> f >= 0 && Math.abs(f - a[2]) <= a[3]), 61);
            }
            case "fits": {
                int[] s = theSheet(a[0]);
                theTent(a[1]);
                return set(p -> told(s, world.alone(a[1], p).after(1).tents.get(a[1]).felt), 16);
            }
            default: {
                int[] s = theSheet(a[0]);
                theTent(a[1]);
                return set(k -> told(s, world.withKind(a[1], k).after(1).tents.get(a[1]).felt), 7);
            }
        }
    }

    private static boolean told(int[] sheet, int[] felt) {
        int[] four = Arrays.copyOf(sheet, 4);
        for (int i = 0; i < 4; i++) {
            if (i < sheet.length && four[i] != -1 && four[i] != felt[i]) {
                return false;
            }
        }
        return true;
    }

    private long nomadsOrTexts(String name, int[] a) {
        switch (name) {
            case "nomads":
                range(a[0], 1, 20);
                ask(world.day + a[0] <= 99999, STATE);
                for (int i = 0; i < a[0]; i++) {
                    int tent = world.draw() % 8;
                    int pitch = world.draw() % 16;
                    if (tent < world.tents.size()) {
                        world.tents.get(tent).pitch = pitch;
                    }
                    world.pass();
                }
                return world.sum();
            case "odds": {
                range(a[0], 0, 15);
                range(a[1], 0, 1);
                int dry = Integer.bitCount(set(p -> Arrays.stream(cells(p)).noneMatch(c -> world.spring[c]), 16));
                BigInteger above = BigInteger.valueOf(dry).pow(a[0]);
                BigInteger below = BigInteger.valueOf(16).pow(a[0]);
                return (a[1] == 0 ? above : below).divide(above.gcd(below)).longValueExact();
            }
            case "seed": {
                int was = world.z;
                world.z = a[0];
                return was;
            }
            case "feed":
                range(a[1], 1, 4);
                ask(tape.length() + a[1] <= 120, FULL);
                for (int i = a[1] - 1; i >= 0; i--) {
                    tape += (char) ((a[0] >> 8 * i) & 255);
                }
                return tape.length();
            case "wipe": {
                int had = tape.length();
                tape = "";
                return had;
            }
            default:
                return text();
        }
    }

    private int text() {
        World w = world.copy();
        String read = tape;
        tape = "";
        try {
            int items = new Parser(read, w).text();
            world = w;
            return items;
        } catch (Fault f) {
            return -1 - f.place;
        }
    }

    /** All tokens first; one that is none stands as itself, and the end as an empty one. */
    private static final class Parser {
        private final List<Token> tokens = new ArrayList<>();
        private final World w;
        private int at = 0;

        Parser(String tape, World w) {
            this.w = w;
            Matcher m = Pattern.compile("([a-z]+|[0-9]+|;|[^ ])", Pattern.DOTALL).matcher(tape);
            while (m.find()) {
                tokens.add(new Token(m.group(), m.start()));
            }
            tokens.add(new Token("", tape.length()));
        }

        boolean on(String text) {
            if (tokens.get(at).text.equals(text)) {
                at++;
                return true;
            }
            return false;
        }

        int number(int most) {
            Token t = tokens.get(at);
            if (!t.text.matches("[0-9]+") || new BigInteger(t.text).compareTo(BigInteger.valueOf(most)) > 0) {
                throw new Fault(t.place);
            }
            at++;
            return Integer.parseInt(t.text);
        }

        int text() {
            int items = 0;
            do {
                item();
                items++;
            } while (on(";"));
            if (!on("")) {
                throw new Fault(tokens.get(at).place);
            }
            return items;
        }

        void item() {
            Token t = tokens.get(at);
            int kind = NAMES.indexOf(t.text);
            if (kind >= 0 && w.tents.size() < 6) {
                at++;
                tent(kind);
            } else if (on("height")) {
                int c = number(24);
                w.height[c] = number(99);
            } else if (on("spring")) {
                w.spring[number(24)] = true;
            } else if (on("dry")) {
                w.spring[number(24)] = false;
            } else {
                throw new Fault(t.place);
            }
        }

        void tent(int kind) {
            Tent t = new Tent(kind);
            w.tents.add(t);
            t.pitch = on("on") ? number(15) : -1;
            t.worn = on("worn") ? number(99) : 0;
            if (on("felt")) {
                t.felt = new int[] {number(99), number(99), number(99), number(99)};
            }
        }
    }

    private long spotsOrSheets(String name, int[] a) {
        switch (name) {
            case "hold":
                range(a[0], 0, 9);
                range(a[1], -1, world.tents.size() - 1);
                world.spots[a[0]] = a[1];
                return 1;
            case "as": {
                range(a[0], 0, 9);
                range(a[1], 0, 6);
                ask(world.spots[a[0]] >= 0, MISSING);
                int kind = world.tents.get(world.spots[a[0]]).kind;
                while (kind >= 0 && kind != a[1]) {
                    kind = PARENTS[kind];
                }
                ask(kind >= 0, KIND);
                return world.spots[a[0]];
            }
            case "sheet":
                range(a[0], 0, 3);
                ask(List.of(0, 8, 16, 32).contains(a[1]), BEYOND);
                ask(a[2] >= 0, SIZE);
                ask(a[2] <= 40, BEYOND);
                sheets[a[0]] = a[1] == 0 ? null : new int[a[2]];
                bits[a[0]] = a[1];
                return a[1] == 0 ? 0 : a[2];
            case "write": {
                int[] s = theSheet(a[0]);
                range(a[1], 0, s.length - 1);
                int shift = 32 - bits[a[0]];
                s[a[1]] = a[2] << shift >> shift;
                return 1;
            }
            case "copy": {
                range(a[0], 0, 3);
                range(a[2], 0, 3);
                int[] s = theSheet(a[0]);
                int[] t = theSheet(a[2]);
                ask(bits[a[0]] == bits[a[2]], KIND);
                ask(a[1] >= 0 && a[3] >= 0 && a[4] >= 0, BEYOND);
                ask((long) a[1] + a[4] <= s.length && (long) a[3] + a[4] <= t.length, BEYOND);
                int[] were = s.clone();
                for (int i = 0; i < a[4]; i++) {
                    t[a[3] + i] = were[a[1] + i];
                }
                return a[4];
            }
            case "load": {
                int[] s = theSheet(a[0]);
                int n = 0;
                while (n < s.length && n < 25 && s[n] >= 0 && s[n] <= 99) {
                    world.height[n] = s[n];
                    n++;
                }
                return n;
            }
            default: {
                int[] s = theSheet(a[0]);
                range(a[1], 0, 99);
                for (int i = 0; i < s.length; i++) {
                    boolean cell = s[i] >= 0 && s[i] < 25;
                    if (!cell || i > 0 && !(beside(s[i - 1], s[i])
                            && Math.abs(world.height[s[i - 1]] - world.height[s[i]]) <= a[1])) {
                        return i + 1;
                    }
                }
                return 0;
            }
        }
    }

    private long images(String name, int[] a) {
        switch (name) {
            case "image":
                kept = world.copy();
                return 1;
            case "undo":
                ask(kept != null, NONE);
                world = kept.copy();
                return world.day;
            case "tear": {
                int was = kept == null ? 0 : 1;
                kept = null;
                return was;
            }
            case "count":
                range(a[0], 0, 7);
                return switch (a[0]) {
                    case 0 -> world.day;
                    case 1 -> world.tents.size();
                    case 2 -> world.tents.stream().filter(t -> t.pitch >= 0).count();
                    case 3 -> world.worn();
                    case 4 -> world.sum();
                    case 5 -> tape.length();
                    case 6 -> world.z;
                    default -> Arrays.stream(world.spots).filter(t -> t >= 0).count();
                };
            case "status":
                range(a[0], -1, 6);
                return a[0] < 0 ? Arrays.stream(found).sum() : found[a[0]];
            default:
                throw new IllegalArgumentException(name);
        }
    }
}
