/** Promises 20 to 25: unlike, home, pitchFor, kindFor, first, out. */
public final class PitchTest {
    public static void main(String[] args) {
        unlike();
        home();
        pitchFor();
        winding();
        kindFor();
        first();
        out();
        Check.end();
    }

    private static void unlike() {
        GroundTents x = Check.camp("tent felt 50 40 70 99;soft");
        Check.due("20: on the flat", 79, x.unlike(0, 15));
        x.change(0, 7, -1);
        Check.due("20: one that keeps nothing", 30, x.unlike(0, 15));
        Check.due("20: nothing kept", 0, x.unlike(1, 3));
        x.height(1, 40);
        x.height(5, 70);
        Check.due("20: as the ground is", 0, x.unlike(0, 0));
        Check.due("20: a column on", 10 + 10 + 20, x.unlike(0, 1));
        int[][] wrong = {{-1, 0}, {2, 0}, {0, -1}, {0, 16}};
        for (int[] w : wrong) {
            Check.due("20: unlike(" + w[0] + ", " + w[1] + ")", Check.BEYOND, x.unlike(w[0], w[1]));
        }
    }

    private static void home() {
        GroundTents x = Check.camp("tent on 9 felt 60 60 60 60;soft;height 18 55;height 24 55");
        Check.due("21: the least unlike", 15, x.home(0));
        Check.due("21: nothing kept, the least number", 0, x.home(1));
        x.height(18, 50);
        Check.due("21: one is enough", 15, x.home(0));
        x.height(6, 55);
        Check.due("21: of several the least", 0, x.home(0));
        Check.due("21: home(-1)", Check.BEYOND, x.home(-1));
        Check.due("21: home(2)", Check.BEYOND, x.home(2));
    }

    private static void pitchFor() {
        GroundTents x = new GroundTents();
        Check.ground(x,
            50, 50, 90, 50, 50,
            50, 50, 90, 50, 50,
            50, 50, 90, 50, 50,
            50, 50, 90, 50, 50,
            50, 50, 90, 50, 50);
        x.tent(0);
        x.tent(1);
        for (int i = 4; i < 8; i++) {
            x.change(0, i, 50);
            x.change(1, i, 50);
        }
        Check.due("22: the stiff one levels the wall", 1, x.pitchFor(1, 0, 4, 0));
        Check.due("22: the other one halves it", 1, x.pitchFor(0, 0, 4, 20));
        Check.due("22: no further", Check.NONE, x.pitchFor(0, 0, 4, 19));
        Check.due("22: the least that does", 0, x.pitchFor(0, 0, 4, 40));
        x.height(2, 99);
        x.height(7, 99);
        Check.due("22: one that is lower", 5, x.pitchFor(0, 0, 4, 20));
        Check.due("22: nothing changes", -1, x.of(0, 1));
        Check.due("22: no day", 0, x.now(0));
        x.change(1, 1, 13);
        Check.due("22: another one that is pitched does it", 0, x.pitchFor(0, 0, 4, 0));
        Check.due("22: but is not where it was, if it is moved", 1, x.pitchFor(1, 0, 4, 0));
        Check.due("22: to itself", 0, x.pitchFor(0, 2, 2, 0));
        int[][] wrong = {{-1, 0, 0, 0}, {2, 0, 0, 0}, {0, -1, 0, 0}, {0, 25, 0, 0}, {0, 0, -1, 0}, {0, 0, 25, 0},
            {0, 0, 0, -1}, {0, 0, 0, 100}};
        for (int[] w : wrong) {
            Check.due("22: pitchFor(" + w[0] + ", " + w[1] + ", " + w[2] + ", " + w[3] + ")", Check.BEYOND,
                x.pitchFor(w[0], w[1], w[2], w[3]));
        }
    }

    /** A ridge that winds through all rows, and of which each pitch has a part. */
    private static void winding() {
        GroundTents x = Check.camp("stiff felt 99 99 99 99");
        Check.ground(x,
            50, 50, 50, 50, 50,
            0, 0, 0, 0, 50,
            50, 50, 50, 50, 50,
            50, 0, 0, 0, 0,
            50, 50, 50, 50, 50);
        Check.due("22: there is a way", 16, x.way(0, 24, 0));
        Check.due("22: but wherever it is pitched there is none", Check.NONE, x.pitchFor(0, 0, 24, 0));
    }

    private static void kindFor() {
        GroundTents x = Check.camp("stiff on 0 felt 90 90 90 90");
        // one day: tent 70, stiff 90, soft 50, patched 51, chiefs 54, old 60, laced 91
        Check.due("23: soft leaves it flat", 2, x.kindFor(0, 1));
        Check.due("23: no day, all alike, the least", 0, x.kindFor(0, 0));
        x.height(0, 47);
        x.height(1, 47);
        x.height(5, 47);
        x.height(6, 47);
        // tent 68, stiff 90, soft 47, patched 48, chiefs 51, old 57, laced 91: 50 is around
        Check.due("23: chiefs fill the hollow", 4, x.kindFor(0, 1));
        // behind two: soft 47; patched 49; chiefs 55
        Check.due("23: patched fill it in two", 3, x.kindFor(0, 2));
        Check.due("23: nothing changes", 1, x.of(0, 0));
        Check.due("23: no height changes", 47, x.cell(0, 0));
        Check.due("23: sixty days", 3, x.kindFor(0, 60));
        GroundTents y = Check.camp("soft on 0 felt 1 50 50 50;height 0 0;height 20 1;height 24 99");
        Check.due("23: 98 is less than 99", 1, y.kindFor(0, 1));
        y.height(20, 0);
        Check.due("23: 99 for all", 0, y.kindFor(0, 1));
        int[][] wrong = {{-1, 0}, {1, 0}, {0, -1}, {0, 61}};
        for (int[] w : wrong) {
            Check.due("23: kindFor(" + w[0] + ", " + w[1] + ")", Check.BEYOND, x.kindFor(w[0], w[1]));
        }
    }

    private static void first() {
        GroundTents x = Check.camp("stiff on 3 felt 10 10 10 10;tent on 3 felt 90 90 90 90;laced on 9 felt 1 1 1 1");
        // stiff, then tent: (90 + 10) / 2; tent, then stiff: 10
        Check.due("24: stiff first", 4 * 40, x.first(0, 1, 9));
        Check.due("24: tent first", -4 * 40, x.first(1, 0, 9));
        Check.due("24: all others are rolled up", 4 * 40, x.first(0, 1, 9));
        Check.due("24: the later one wins", 4 * (2 - 10), x.first(0, 2, 15));
        Check.due("24: nothing changes", 3, x.of(0, 1));
        Check.due("24: no height changes", 1250, x.now(1));
        Check.due("24: one and the same", Check.BEYOND, x.first(1, 1, 0));
        int[][] wrong = {{-1, 0, 0}, {3, 0, 0}, {0, -1, 0}, {0, 3, 0}, {0, 1, -1}, {0, 1, 16}};
        for (int[] w : wrong) {
            Check.due("24: first(" + w[0] + ", " + w[1] + ", " + w[2] + ")", Check.BEYOND, x.first(w[0], w[1], w[2]));
        }
    }

    private static void out() {
        GroundTents x = Check.camp("patched felt 90 90 90 90;stiff on 0 felt 7 7 7 7;soft on 5");
        Check.due("25: at once", 0, x.out(0, 0, 80, 10));
        // patched on 50: ground 51, felt 70; then ground 52, felt 60; then 53, 56
        Check.due("25: behind a day", 1, x.out(0, 0, 50, 39));
        Check.due("25: behind a day, just so", 1, x.out(0, 0, 50, 20));
        Check.due("25: behind two", 2, x.out(0, 0, 50, 19));
        Check.due("25: never", Check.NONE, x.out(1, 3, 50, 42));
        Check.due("25: not never", 0, x.out(1, 3, 50, 43));
        Check.due("25: felt must keep something", 1, x.out(2, 0, 50, 0));
        Check.due("25: felt that keeps nothing is near nothing", 1, x.out(2, 0, 0, 99));
        x.height(24, 60);
        Check.due("25: all four count", 1, x.out(2, 15, 50, 10));
        Check.due("25: all four count, never", Check.NONE, x.out(2, 15, 50, 9));
        Check.due("25: nothing changes", 5, x.of(2, 1));
        slowOut();
        int[][] wrong = {{-1, 0, 0, 0}, {3, 0, 0, 0}, {0, -1, 0, 0}, {0, 16, 0, 0}, {0, 0, -1, 0}, {0, 0, 100, 0},
            {0, 0, 0, -1}, {0, 0, 0, 100}};
        for (int[] w : wrong) {
            Check.due("25: out(" + w[0] + ", " + w[1] + ", " + w[2] + ", " + w[3] + ")", Check.BEYOND,
                x.out(w[0], w[1], w[2], w[3]));
        }
    }

    /** The chiefs lift ground and felt from 0 on; each height is met on the day on which a go would meet it. */
    private static void slowOut() {
        for (int h = 0; h <= 94; h += 3) {
            GroundTents x = lowCamp();
            int days = 0;
            while (days <= 60 && x.of(0, 4) < h) {
                x.go(1);
                days++;
            }
            Check.due("25: out at height " + (h + 5), days, lowCamp().out(0, 0, h + 5, 5));
        }
    }

    private static GroundTents lowCamp() {
        return Check.camp("chiefs on 0 felt 0 0 0 0;height 0 0;height 1 0;height 5 0;height 6 0");
    }
}
