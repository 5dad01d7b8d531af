/** The edges that the document names: where to pitch, which first, what was kept; promises 20 to 27. */
public final class EdgesPitchTest {
    public static void main(String[] args) {
        unlike();
        home();
        pitchFor();
        kindFor();
        first();
        out();
        fits();
        kinds();
        sheetsThatTell();
        Check.end();
    }

    private static void unlike() {
        Edge.run("20: by nothing", "read(tent felt 50 50 50 50) = 1", "unlike(0, 0) = 0", "unlike(0, 15) = 0");
        Edge.run("20: by the most there is", "read(tent felt 99 0 99 0;height 18 0;height 19 99;height 23 0;height 24 99) = 5",
            "unlike(0, 15) = 396", "unlike(0, 16) = BEYOND", "unlike(0, -1) = BEYOND");
        Edge.run("20: above and below together", "read(tent felt 49 51 48 52) = 1", "unlike(0, 7) = 6");
        Edge.run("20: one that keeps nothing: by 0", "read(tent felt 0 99 0 99) = 1", "unlike(0, 0) = 198",
            "change(0, 4, -1) = 0", "unlike(0, 0) = 148", "change(0, 7, -1) = 99", "unlike(0, 0) = 99", "beat(0) = 2",
            "unlike(0, 0) = 0");
        Edge.run("20: wherever it is pitched", "read(tent on 15 felt 1 2 3 4;height 0 1;height 1 2;height 5 3;height 6 4) = 5",
            "unlike(0, 0) = 0", "unlike(0, 15) = 190");
    }

    private static void home() {
        for (int p = 0; p < 16; p++) {
            int c = 5 * (p / 4) + p % 4;
            GroundTents x = Check.camp("stiff felt 1 2 3 4;laced on 0 felt 9 9 9 9");
            x.height(c, 1);
            x.height(c + 1, 2);
            x.height(c + 5, 3);
            x.height(c + 6, 4);
            Check.due("21: the PITCH from which it is UNLIKE by least, " + p, p, x.home(0));
        }
        Edge.run("21: of several the least number", "read(stiff felt 50 50 50 50;stiff on 15) = 2", "home(0) = 0",
            "home(1) = 0", "height(0, 51) = 50", "home(0) = 1", "height(4, 51) = 50", "home(0) = 1", "height(7, 51) = 50",
            "home(0) = 4", "home(1) = 0");
        Edge.run("21: no such TENT", "home(0) = BEYOND", "tent(0) = 0", "home(0) = 0", "home(1) = BEYOND", "home(-1) = BEYOND",
            "status(0) = 3");
    }

    private static void pitchFor() {
        Edge.run("22: the last PITCH", "read(stiff felt 50 50 50 50;height 24 99) = 2", "pitchFor(0, 0, 24, 0) = 15",
            "pitchFor(0, 24, 0, 48) = 15", "pitchFor(0, 0, 24, 49) = 0", "of(0, 1) = -1", "cell(24, 0) = 99", "now(0) = 0");
        Edge.run("22: the first PITCH", "read(stiff felt 50 50 50 50;height 0 99) = 2", "pitchFor(0, 0, 24, 0) = 0",
            "pitchFor(0, 0, 0, 0) = 0");
        Edge.run("22: of several the least number", "read(stiff felt 50 50 50 50;height 12 99) = 2",
            "pitchFor(0, 12, 24, 0) = 5", "pitchFor(0, 0, 12, 0) = 5");
        Edge.run("22: NONE: FELT that keeps nothing leaves the CELL as it is", "read(stiff;height 24 99) = 2",
            "pitchFor(0, 0, 24, 48) = NONE", "pitchFor(0, 0, 24, 49) = 0", "status(3) = 1");
        Edge.run("22: behind one DAY, not two: a quarter of the way", "read(old felt 50 50 50 50;height 24 90) = 2",
            "pitchFor(0, 0, 24, 30) = 15", "pitchFor(0, 0, 24, 29) = NONE");
        Edge.run("22: if it is pitched on it, it is not where it is",
            "read(stiff on 15 felt 50 50 50 50;height 24 99;height 0 99) = 3", "pitchFor(0, 0, 24, 0) = NONE",
            "pitchFor(0, 0, 23, 0) = 0", "of(0, 1) = 15");
        Edge.run("22: others that are pitched press, too",
            "read(stiff felt 50 50 50 50;stiff on 15 felt 50 50 50 50;height 24 99;height 0 99) = 4",
            "pitchFor(0, 0, 24, 0) = 0", "change(1, 1, -1) = 15", "pitchFor(0, 0, 24, 0) = NONE");
        Edge.run("22: CLIMB 0 to 99", Camps.cliff(), "pitchFor(0, 0, 24, 99) = 0", "pitchFor(0, 0, 24, 96) = NONE",
            "pitchFor(0, 0, 24, 100) = BEYOND", "pitchFor(0, 0, 24, -1) = BEYOND");
    }

    private static void kindFor() {
        // felt all over pitch 0 and the hollow's height there; all around is 50; the kind that comes nearest to 50 in a day
        int[][] best = {{60, 40, 0}, {50, 40, 1}, {90, 50, 2}, {90, 49, 3}, {90, 46, 4}, {80, 40, 5}, {49, 40, 6}};
        for (int[] b : best) {
            String f = " " + b[0];
            GroundTents x = Check.camp("tent on 0 felt" + f + f + f + f);
            for (int c : new int[] {0, 1, 5, 6}) {
                x.height(c, b[1]);
            }
            Check.due("23: the KIND, felt " + b[0] + " on " + b[1], b[2], x.kindFor(0, 1));
            Check.due("23: no DAY, all alike, the least number", 0, x.kindFor(0, 0));
            Check.due("23: it stays of its kind", 0, x.of(0, 0));
        }
        Edge.run("23: of several that would do the least number", "read(laced;old on 0) = 2", "kindFor(0, 60) = 0",
            "kindFor(1, 1) = 0", "kindFor(0, 0) = 0");
        Edge.run("23: n 0 to 60", "read(soft on 0 felt 90 90 90 90) = 1", "kindFor(0, 60) = 2", "kindFor(0, 61) = BEYOND",
            "kindFor(0, -1) = BEYOND", "now(0) = 0");
        sixtiethDay();
        Edge.run("23: 98 is less than 99", "read(soft on 0 felt 1 50 50 50;height 0 0;height 20 1;height 24 99) = 4",
            "kindFor(0, 1) = 1", "kindFor(0, 0) = 0");
        Edge.run("23: the greatest less the least is 99 for all",
            "read(soft on 0 felt 0 50 50 50;height 20 0;height 24 99) = 3", "kindFor(0, 1) = 0", "kindFor(0, 60) = 0");
    }

    /** What each kind leads to in so many days is asked of go; the sixtieth counts and no other does. */
    private static void sixtiethDay() {
        for (int n = 50; n <= 60; n++) {
            int best = 0;
            int least = 100;
            for (int kind = 0; kind < 7; kind++) {
                GroundTents x = Camps.slowRise();
                x.change(1, 0, kind);
                x.go(n);
                if (x.now(5) < least) {
                    least = x.now(5);
                    best = kind;
                }
            }
            Check.due("23: behind " + n + " DAYS", best, Camps.slowRise().kindFor(1, n));
        }
    }

    private static void first() {
        String alike = "read(stiff on 3 felt 99 99 99 99;stiff felt 0 0 0 0;laced on 15 felt 7 7 7 7) = 3";
        Edge.run("24: below 0, by the most", alike, "first(0, 1, 0) = -396", "first(0, 1, 15) = -396", "status(-1) = 0");
        Edge.run("24: above 0, by the most", alike, "first(1, 0, 0) = 396", "first(1, 0, 15) = 396");
        Edge.run("24: by nothing", "read(soft felt 1 2 3 4;soft felt 5 6 7 8) = 2", "first(0, 1, 0) = 0",
            "first(1, 0, 15) = 0");
        Edge.run("24: all others are ROLLED UP",
            "read(stiff on 0 felt 9 9 9 9;stiff on 0 felt 8 8 8 8;stiff on 0 felt 99 99 99 99) = 3", "first(0, 1, 0) = -4",
            "first(1, 0, 0) = 4", "of(2, 1) = 0", "of(0, 1) = 0");
        Edge.run("24: alone: the first is ROLLED UP on the second DAY",
            "read(chiefs felt 50 50 50 50;stiff felt 10 10 10 10) = 2", "first(0, 1, 5) = -16");
        Edge.run("24: FELT that keeps nothing takes what the other one left", "read(laced;stiff felt 10 10 10 10) = 2",
            "first(0, 1, 5) = 0", "first(1, 0, 5) = 0");
        Edge.run("24: BEYOND: also one and the same", alike, "first(0, 0, 0) = BEYOND", "first(2, 2, 15) = BEYOND",
            "first(0, 3, 0) = BEYOND", "first(3, 0, 0) = BEYOND", "first(3, 3, 0) = BEYOND", "first(-1, -1, 0) = BEYOND",
            "status(0) = 6");
    }

    private static void out() {
        Edge.run("25: 0 DAYS", "read(stiff felt 40 50 60 50) = 1", "out(0, 0, 50, 10) = 0", "out(0, 0, 50, 9) = NONE",
            "out(0, 15, 50, 99) = 0");
        Edge.run("25: no more than d away, above and below", "read(stiff felt 57 57 57 57) = 1", "out(0, 0, 50, 7) = 0",
            "out(0, 0, 50, 6) = NONE", "out(0, 0, 64, 7) = 0", "out(0, 0, 64, 6) = NONE");
        Edge.run("25: h 0 to 99, d 0 to 99", "read(stiff felt 0 0 0 0;stiff felt 99 99 99 99) = 2", "out(0, 0, 0, 0) = 0",
            "out(1, 0, 99, 0) = 0", "out(0, 0, 99, 99) = 0", "out(1, 0, 0, 99) = 0", "out(0, 0, 99, 98) = NONE",
            "out(1, 0, 0, 98) = NONE", "out(0, 0, 100, 99) = BEYOND", "out(0, 0, -1, 99) = BEYOND",
            "out(0, 0, 0, 100) = BEYOND", "out(0, 0, 0, -1) = BEYOND");
        Edge.run("25: all pieces keep something", "read(stiff felt 50 50 50 50) = 1", "change(0, 7, -1) = 50",
            "out(0, 0, 50, 99) = 1", "out(0, 0, 0, 99) = 1", "change(0, 7, 50) = -1", "out(0, 0, 50, 99) = 0", "beat(0) = 4",
            "out(0, 15, 50, 0) = 1", "height(24, 51) = 50", "out(0, 15, 50, 0) = NONE");
        Edge.run("25: alone (all others ROLLED UP)", "read(stiff on 0 felt 9 9 9 9;soft on 0;stiff on 0 felt 8 8 8 8) = 3",
            "out(1, 0, 50, 0) = 1", "out(1, 0, 9, 0) = NONE", "of(0, 1) = 0", "of(1, 4) = -1", "now(0) = 0");
        Edge.run("25: on a PITCH, though it is ROLLED UP or elsewhere",
            "read(soft;soft on 0;height 24 99;height 23 99;height 19 99;height 18 99) = 6", "out(0, 15, 99, 0) = 1",
            "out(1, 15, 99, 0) = 1", "out(1, 14, 99, 0) = NONE", "of(0, 1) = -1", "of(1, 1) = 0");
        Edge.run("25: the latest DAY there can be: chiefs climb from 0 to 99",
            "read(chiefs;height 0 0;height 1 0;height 5 0;height 6 0) = 5", "out(0, 0, 99, 0) = 36", "out(0, 0, 98, 0) = 35",
            "change(0, 1, 0) = -1", "go(35) = 1446", "of(0, 4) = 98", "go(1) = 1446", "of(0, 4) = 99");
    }

    private static void fits() {
        Edge.run("26: a sheet of no numbers: nothing is asked", "read(stiff felt 1 2 3 4) = 1", "sheet(0, 8, 0) = 0",
            "fits(0, 0) = 65535");
        Edge.run("26: a number is asked if the sheet has it", "read(stiff felt 1 2 3 4) = 1", "fill(0, 8, 1) = 1",
            "fits(0, 0) = 65535", "fill(0, 8, 2) = 1", "fits(0, 0) = 0", "fill(0, 8, 1, 2, 3, 4) = 4", "fits(0, 0) = 65535",
            "fill(0, 8, 1, 2, 3, 5) = 4", "fits(0, 0) = 0", "fill(0, 8, 1, 2, 3) = 3", "fits(0, 0) = 65535");
        Edge.run("26: others than the first four: nothing is asked", "read(stiff felt 1 2 3 4) = 1",
            "fill(0, 8, 1, 2, 3, 4, 5) = 5", "fits(0, 0) = 65535", "sheet(0, 8, 40) = 40", "fits(0, 0) = 0",
            "write(0, 0, 1) = 1", "write(0, 1, 2) = 1", "write(0, 2, 3) = 1", "write(0, 3, 4) = 1", "write(0, 39, 77) = 1",
            "fits(0, 0) = 65535");
        Edge.run("26: for a DAY alone now", "read(stiff on 0 felt 9 9 9 9;soft) = 2", "fill(0, 8, 50, 50, 50, 50) = 4",
            "fits(0, 1) = 65535", "fill(0, 8, 9, 50, 50, 50) = 4", "fits(0, 1) = 0", "of(1, 1) = -1", "of(1, 4) = -1",
            "of(0, 1) = 0", "now(0) = 0");
        Edge.run("26: FELT behind that DAY, not ahead of it", "read(soft felt 1 2 3 4) = 1", "fill(0, 8, 1, 2, 3, 4) = 4",
            "fits(0, 0) = 0", "fill(0, 8, 50) = 1", "fits(0, 0) = 65535");
        Edge.run("26: OLD, by WORN ahead of that DAY", "read(old worn 49 felt 1 2 3 4) = 1", "fill(0, 8, 1, 2, 3, 4) = 4",
            "fits(0, 0) = 65535", "change(0, 2, 50) = 49", "fits(0, 0) = 0");
        Edge.run("26: the first PITCH and the last", "read(soft;height 0 0;height 24 99) = 3", "fill(0, 8, 0) = 1",
            "fits(0, 0) = 1", "fill(0, 8, -1, -1, -1, 99) = 4", "fits(0, 0) = 32768");
    }

    private static void kinds() {
        Edge.run("27: a sheet of no numbers: all of them", "read(stiff on 0 felt 1 2 3 4) = 1", "sheet(0, 8, 0) = 0",
            "kinds(0, 0) = 127");
        Edge.run("27: none of them", "read(stiff on 0 felt 1 2 3 4) = 1", "fill(0, 8, 99) = 1", "kinds(0, 0) = 0");
        Edge.run("27: ROLLED UP, FELT stays for all of them", "read(stiff felt 1 2 3 4) = 1", "fill(0, 8, 1, 2, 3, 4) = 4",
            "kinds(0, 0) = 127", "fill(0, 8, 50) = 1", "kinds(0, 0) = 0");
        Edge.run("27: FELT that keeps nothing becomes g for all of them", "read(stiff on 0) = 1",
            "fill(0, 8, 50, 50, 50, 50) = 4", "kinds(0, 0) = 127");
        Edge.run("27: it could be of: held at 99", "read(stiff on 0 felt 99 99 99 99;height 0 99) = 2", "fill(0, 8, 99) = 1",
            "kinds(0, 0) = 127", "height(0, 98) = 99", "kinds(0, 0) = 114");
        Edge.run("27: OLD, WORN 49 and 50", "read(stiff on 0 worn 49 felt 1 2 3 4) = 1", "fill(0, 8, 50) = 1",
            "kinds(0, 0) = 4", "change(0, 2, 50) = 49", "kinds(0, 0) = 36", "of(0, 0) = 1", "now(0) = 0");
        Edge.run("27: all else as it is: those ahead of it press, those behind it don't",
            "read(stiff on 0 felt 9 9 9 9;soft on 0;stiff on 0 felt 8 8 8 8) = 3", "fill(0, 8, 9) = 1", "kinds(0, 1) = 127",
            "fill(0, 8, 8) = 1", "kinds(0, 1) = 0");
        Edge.run("27: others than the first four: nothing is asked", "read(soft on 0) = 1",
            "fill(0, 16, 50, 50, 50, 50, 7) = 5", "kinds(0, 0) = 127", "write(0, 3, 7) = 1", "kinds(0, 0) = 0");
    }

    private static void sheetsThatTell() {
        for (int bits = 8; bits <= 32; bits *= 2) {
            String sheet = "fill(0, " + bits + ", ";
            Edge.run("26, 27: -1: any, in " + bits + " bits", "read(stiff on 0 felt 1 2 3 4) = 1",
                sheet + "-1, -1, -1, -1) = 4", "fits(0, 0) = 65535", "kinds(0, 0) = 127", sheet + "-1, 2, -1, 4) = 4",
                "fits(0, 0) = 65535", "kinds(0, 0) = 98", sheet + "-1, 2, -1, 5) = 4", "fits(0, 0) = 0", "kinds(0, 0) = 0");
            Edge.run("26, 27: what no FELT can be, in " + bits + " bits", "read(soft on 0) = 1", sheet + "100) = 1",
                "fits(0, 0) = 0", "kinds(0, 0) = 0", sheet + "-2) = 1", "fits(0, 0) = 0", "kinds(0, 0) = 0", sheet + "50) = 1",
                "fits(0, 0) = 65535", "kinds(0, 0) = 127");
            Edge.run("26, 27: FELT 0 and 99, in " + bits + " bits", "read(stiff on 0 felt 0 99 0 99) = 1",
                sheet + "0, 99, 0, 99) = 4", "fits(0, 0) = 65535", "kinds(0, 0) = 98");
        }
        Edge.run("26: -1 is any, and FELT never is -1 then", "read(soft;laced) = 2", "fill(0, 32, -1) = 1",
            "fits(0, 1) = 65535", "kinds(0, 1) = 127");
    }
}
