/** Promises 11 to 14: way, climb, reach, drink. */
public final class FlocksTest {
    public static void main(String[] args) {
        way();
        climb();
        reach();
        drink();
        Check.end();
    }

    /** A wall of 90 with a gap of 60 below right; beyond it 50 again, and a pit in the corner. */
    private static GroundTents walled() {
        GroundTents x = new GroundTents();
        Check.ground(x,
            50, 50, 90, 50, 50,
            50, 50, 90, 50, 50,
            50, 50, 90, 50, 50,
            50, 50, 90, 50, 50,
            50, 50, 60, 50, 0);
        return x;
    }

    private static void way() {
        GroundTents x = walled();
        Check.due("11: through the gap", 12, x.way(0, 4, 10));
        Check.due("11: over the wall", 4, x.way(0, 4, 40));
        Check.due("11: not quite over the wall", 12, x.way(0, 4, 39));
        Check.due("11: down counts as up", Check.NONE, x.way(2, 0, 29));
        Check.due("11: down counts as up, just so", 2, x.way(2, 0, 40));
        Check.due("11: no way", Check.NONE, x.way(0, 4, 9));
        Check.due("11: to itself", 0, x.way(24, 24, 0));
        Check.due("11: into the pit", 8, x.way(0, 24, 50));
        Check.due("11: not into the pit", Check.NONE, x.way(0, 24, 49));
        Check.due("11: rows don't run on", 5, x.way(4, 5, 40));
        wrongWays(x);
    }

    private static void wrongWays(GroundTents x) {
        int[][] wrong = {{-1, 0, 0}, {25, 0, 0}, {0, -1, 0}, {0, 25, 0}, {0, 1, -1}, {0, 1, 100}};
        for (int[] w : wrong) {
            String call = "(" + w[0] + ", " + w[1] + ", " + w[2] + ")";
            Check.due("11: way" + call, Check.BEYOND, x.way(w[0], w[1], w[2]));
            Check.due("17: when" + call, Check.BEYOND, x.when(w[0], w[1], w[2]));
        }
    }

    private static void climb() {
        GroundTents x = walled();
        Check.due("12: through the gap", 10, x.climb(0, 4));
        Check.due("12: onto the wall", 30, x.climb(0, 2));
        Check.due("12: into the pit", 50, x.climb(2, 24));
        Check.due("12: out of the pit", 50, x.climb(24, 2));
        Check.due("12: to itself", 0, x.climb(7, 7));
        Check.due("12: on the flat", 0, x.climb(0, 21));
        x.height(23, 99);
        x.height(19, 99);
        Check.due("12: a sheer cliff", 99, x.climb(24, 0));
        Check.due("12: climb(-1, 0)", Check.BEYOND, x.climb(-1, 0));
        Check.due("12: climb(25, 0)", Check.BEYOND, x.climb(25, 0));
        Check.due("12: climb(0, -1)", Check.BEYOND, x.climb(0, -1));
        Check.due("12: climb(0, 25)", Check.BEYOND, x.climb(0, 25));
    }

    private static void reach() {
        GroundTents x = walled();
        int left = 3 | 3 << 5 | 3 << 10 | 3 << 15 | 3 << 20;
        int right = 24 | 24 << 5 | 24 << 10 | 24 << 15 | 8 << 20;
        Check.due("13: left of the wall", left, x.reach(0, 9));
        Check.due("13: right of it", right, x.reach(4, 9));
        Check.due("13: through the gap", left | right | 1 << 22, x.reach(4, 10));
        Check.due("13: on the wall", 1 << 2 | 1 << 7 | 1 << 12 | 1 << 17, x.reach(2, 0));
        Check.due("13: in the pit", 1 << 24, x.reach(24, 49));
        Check.due("13: all", (1 << 25) - 1, x.reach(24, 50));
        Check.due("13: reach(-1, 0)", Check.BEYOND, x.reach(-1, 0));
        Check.due("13: reach(25, 0)", Check.BEYOND, x.reach(25, 0));
        Check.due("13: reach(0, -1)", Check.BEYOND, x.reach(0, -1));
        Check.due("13: reach(0, 100)", Check.BEYOND, x.reach(0, 100));
    }

    private static void drink() {
        GroundTents x = walled();
        Check.due("14: no spring", Check.NONE, x.drink(0, 99));
        x.spring(3, 1);
        Check.due("14: one behind the wall", 3, x.drink(0, 10));
        Check.due("14: not behind the wall", Check.NONE, x.drink(0, 9));
        x.spring(10, 1);
        x.spring(6, 1);
        Check.due("14: of as many steps the least", 6, x.drink(0, 10));
        Check.due("14: the nearest, not the least", 10, x.drink(15, 10));
        Check.due("14: over the wall it is nearer", 3, x.drink(2, 40));
        Check.due("14: itself", 10, x.drink(10, 0));
        Check.due("14: drink(-1, 0)", Check.BEYOND, x.drink(-1, 0));
        Check.due("14: drink(25, 0)", Check.BEYOND, x.drink(25, 0));
        Check.due("14: drink(0, -1)", Check.BEYOND, x.drink(0, -1));
        Check.due("14: drink(0, 100)", Check.BEYOND, x.drink(0, 100));
    }
}
