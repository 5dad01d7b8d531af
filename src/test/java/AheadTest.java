/** Promises 15 to 19: ahead, felt, when, settles, lies. */
public final class AheadTest {
    public static void main(String[] args) {
        aheadAndFelt();
        when();
        settles();
        lies();
        slowOnes();
        Check.end();
    }

    private static void aheadAndFelt() {
        GroundTents x = Check.camp("tent on 0 felt 90 10 50 50;old on 5 worn 30 felt 9 8 7 6;laced felt 1 2 3 4");
        int[] heights = new int[101];
        int[] felts = new int[101];
        x.image();
        for (int n = 0; n <= 100; n++) {
            heights[n] = x.cell(6, 0);
            felts[n] = x.of(1, 4);
            x.go(1);
        }
        x.undo();
        for (int n = 0; n <= 100; n++) {
            Check.due("15: ahead(6, " + n + ")", heights[n], x.ahead(6, n));
            Check.due("16: felt(1, 0, " + n + ")", felts[n], x.felt(1, 0, n));
        }
        Check.due("15: one day", 70, x.ahead(0, 1));
        Check.due("15: no day", 50, x.ahead(0, 0));
        Check.due("16: one day", 30, x.felt(0, 1, 1));
        Check.due("16: rolled up", 4, x.felt(2, 3, 100));
        Check.due("15, 16: nothing changes", 0, x.now(0));
        Check.due("15, 16: no felt changes", 90, x.of(0, 4));
        Check.due("15, 16: no height changes", 1250, x.now(1));
        int[][] wrong = {{-1, 0}, {25, 0}, {0, -1}, {0, 101}};
        for (int[] w : wrong) {
            Check.due("15: ahead(" + w[0] + ", " + w[1] + ")", Check.BEYOND, x.ahead(w[0], w[1]));
        }
        int[][] wrongFelt = {{-1, 0, 0}, {3, 0, 0}, {0, -1, 0}, {0, 4, 0}, {0, 0, -1}, {0, 0, 101}};
        for (int[] w : wrongFelt) {
            Check.due("16: felt(" + w[0] + ", " + w[1] + ", " + w[2] + ")", Check.BEYOND, x.felt(w[0], w[1], w[2]));
        }
    }

    private static void when() {
        GroundTents x = Check.camp("tent on 0 felt 0 0 0 0");
        Check.due("17: at once", 0, x.when(0, 24, 0));
        Check.due("17: to itself", 0, x.when(3, 3, 0));
        x.height(0, 80);
        // heights 80 and 50 with felt 0: 40 and 25, felt the same; then they stay, as felt and ground are alike
        Check.due("17: behind a day", 1, x.when(0, 1, 29));
        Check.due("17: never", Check.NONE, x.when(0, 1, 14));
        Check.due("17: just so", 1, x.when(0, 1, 15));
        x = Camps.slowRise();
        Check.due("17: behind 60 days", 60, x.when(0, 24, 42));
        Check.due("17: behind 100 days", 100, x.when(0, 24, 2));
        Check.due("17: behind 101 days, which is not asked", Check.NONE, x.when(0, 24, 1));
        Check.due("17: nothing changes", 0, x.cell(0, 0));
        x.go(1);
        Check.due("17: behind 99 more days", 99, x.when(0, 24, 2));
        Check.due("17: behind 100 more days", 100, x.when(0, 24, 1));
        x.go(60);
        x.go(40);
        Check.due("17: as it came", 98, x.cell(0, 0));
        Check.due("17: there", 0, x.when(0, 24, 1));
    }

    private static void slowOnes() {
        // felt of the old one, the chiefs and the tent; days until the ground is still; the soft one lies level a day later
        int[][] camps = {{1, 4, 5, 99}, {1, 4, 4, 99}, {-1, 2, 2, 100}, {0, 1, 4, 100}, {-1, 0, 0, 101}, {0, -1, 2, 101}};
        for (int[] c : camps) {
            String felt = c[0] + ", " + c[1] + ", " + c[2];
            int still = c[3];
            Check.due("18: days by going, felt " + felt, still, daysUntilStill(Camps.slowLevel(c[0], c[1], c[2])));
            Check.due("19: days by going, felt " + felt, still + 1, daysUntilLevel(Camps.slowLevel(c[0], c[1], c[2])));
            GroundTents x = Camps.slowLevel(c[0], c[1], c[2]);
            Check.due("18: settles, felt " + felt, still > 100 ? Check.NONE : still, x.settles());
            Check.due("19: lies, felt " + felt, still + 1 > 100 ? Check.NONE : still + 1, x.lies(0, 0));
            x.go(2);
            Check.due("18: settles two days on, felt " + felt, still - 2, x.settles());
            Check.due("19: lies two days on, felt " + felt, still - 1, x.lies(0, 0));
        }
    }

    private static int daysUntilLevel(GroundTents x) {
        int n = 0;
        while (n < 200 && x.unlike(0, 0) != 0) {
            x.go(1);
            n++;
        }
        return n;
    }

    private static int daysUntilStill(GroundTents x) {
        for (int n = 0; n < 200; n++) {
            int[] before = heights(x);
            x.go(1);
            if (java.util.Arrays.equals(before, heights(x))) {
                return n;
            }
        }
        return 200;
    }

    private static int[] heights(GroundTents x) {
        int[] heights = new int[25];
        for (int c = 0; c < 25; c++) {
            heights[c] = x.cell(c, 0);
        }
        return heights;
    }

    private static void settles() {
        GroundTents x = new GroundTents();
        Check.due("18: no tents", 0, x.settles());
        x = Check.camp("stiff on 0 felt 1 2 3 4");
        Check.due("18: one day", 1, x.settles());
        x = Check.camp("stiff on 0 felt 1 2 3 4;stiff on 0 felt 5 6 7 8");
        Check.due("18: pressed to and fro on each day, and the same behind it", 1, x.settles());
        x = Check.camp("stiff on 0;tent on 0 felt 9 9 9 9");
        x.go(1);
        Check.due("18: nothing changes", 1, x.now(0));
        x = Check.camp("soft on 0;laced on 5 felt 98 0 0 0");
        Check.due("18: laced presses the same again", 1, x.settles());
    }

    private static void lies() {
        GroundTents x = Check.camp("old on 0 felt 90 50 50 50;tent felt 1 1 1 1;soft on 0 felt 0 0 0 0;stiff on 15 felt 50 50 50 51");
        Check.due("19: rolled up", Check.STATE, x.lies(1, 0));
        Check.due("19: BEYOND is asked ahead of STATE", Check.BEYOND, x.lies(1, 100));
        Check.due("19: at once", 0, x.lies(0, 40));
        Check.due("19: behind a day: 60", 1, x.lies(0, 39));
        Check.due("19: behind a day, just so", 1, x.lies(0, 30));
        Check.due("19: behind two: 67", 2, x.lies(0, 29));
        Check.due("19: the last piece counts, too", 1, x.lies(3, 0));
        Check.due("19: the last piece, just so", 0, x.lies(3, 1));
        Check.due("19: lies(-1, 0)", Check.BEYOND, x.lies(-1, 0));
        Check.due("19: lies(4, 0)", Check.BEYOND, x.lies(4, 0));
        Check.due("19: lies(0, -1)", Check.BEYOND, x.lies(0, -1));
        x.beat(0);
        Check.due("19: felt that keeps nothing", 0, x.lies(0, 0));
        x = Check.camp("stiff on 0 felt 1 1 1 1;stiff on 0 felt 9 9 9 9");
        Check.due("19: never", Check.NONE, x.lies(0, 7));
        Check.due("19: behind the first", 1, x.lies(0, 8));
        Check.due("19: nothing changes", 1250, x.now(1));
    }
}
