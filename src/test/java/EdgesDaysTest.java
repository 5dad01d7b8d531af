/** The edges that the document names: what kinds press, take and wear, days; promises 9 and 10. */
public final class EdgesDaysTest {
    /** Felt and ground: both least, both greatest, the one or the other, a step apart, alike, odd sums. */
    private static final int[][] FELT_AND_GROUND = {{0, 0}, {99, 99}, {0, 99}, {99, 0}, {1, 0}, {0, 1}, {99, 98}, {98, 99},
        {50, 50}, {99, 96}, {99, 95}};

    public static void main(String[] args) {
        presses();
        takes();
        quotients();
        keepsNothing();
        oldFelt();
        wears();
        rolledUp();
        order();
        go();
        lastDay();
        now();
        Check.end();
    }

    /** A day of one tent on pitch 0, of which just the first piece keeps something. */
    private static GroundTents dayOf(int kind, int worn, int f, int g) {
        GroundTents x = new GroundTents();
        x.tent(kind);
        x.change(0, 1, 0);
        x.change(0, 2, worn);
        x.change(0, 4, f);
        x.height(0, g);
        x.go(1);
        return x;
    }

    private static void presses() {
        int[][] want = {
            {0, 99, 49, 49, 0, 0, 98, 98, 50, 97, 97},
            {0, 99, 0, 99, 1, 0, 99, 98, 50, 99, 99},
            {0, 99, 99, 0, 0, 1, 98, 99, 50, 96, 95},
            {0, 99, 99, 1, 1, 1, 99, 99, 50, 97, 96},
            {3, 99, 99, 4, 4, 4, 99, 99, 53, 99, 99},
            {0, 99, 74, 24, 0, 0, 98, 98, 50, 96, 96},
            {1, 99, 1, 99, 2, 1, 99, 99, 51, 99, 99}};
        for (int kind = 0; kind < 7; kind++) {
            for (int i = 0; i < want[kind].length; i++) {
                int f = FELT_AND_GROUND[i][0];
                int g = FELT_AND_GROUND[i][1];
                Check.due("Terms: PRESSES, held within 0 to 99, kind " + kind + ", felt " + f + " on " + g, want[kind][i],
                    dayOf(kind, 0, f, g).cell(0, 0));
            }
        }
    }

    private static void takes() {
        int[][] want = {
            {0, 99, 49, 49, 0, 0, 98, 98, 50, 97, 97},
            {0, 99, 0, 99, 1, 0, 99, 98, 50, 99, 99},
            {0, 99, 99, 0, 0, 1, 98, 99, 50, 96, 95},
            {0, 99, 49, 49, 0, 0, 98, 98, 50, 97, 97},
            {1, 99, 50, 50, 1, 1, 99, 99, 51, 98, 98},
            {0, 99, 0, 99, 1, 0, 99, 98, 50, 99, 99},
            {0, 99, 0, 99, 1, 0, 99, 98, 50, 99, 99}};
        for (int kind = 0; kind < 7; kind++) {
            for (int i = 0; i < want[kind].length; i++) {
                int f = FELT_AND_GROUND[i][0];
                int g = FELT_AND_GROUND[i][1];
                Check.due("Terms: TAKES, held within 0 to 99, kind " + kind + ", felt " + f + " on " + g, want[kind][i],
                    dayOf(kind, 0, f, g).of(0, 4));
            }
        }
    }

    private static void quotients() {
        // f and g, their half, a quarter of f and 3 times g; chiefs take the half and 1
        int[][] cut = {{3, 0, 1, 0}, {4, 0, 2, 1}, {0, 3, 1, 2}, {7, 0, 3, 1}, {8, 0, 4, 2}, {1, 2, 1, 1}, {2, 2, 2, 2},
            {1, 1, 1, 1}, {5, 2, 3, 2}, {6, 2, 4, 3}};
        for (int[] c : cut) {
            String on = ", felt " + c[0] + " on " + c[1];
            Check.due("Terms: half (cut), TENT presses" + on, c[2], dayOf(0, 0, c[0], c[1]).cell(0, 0));
            Check.due("Terms: half (cut), TENT takes" + on, c[2], dayOf(0, 0, c[0], c[1]).of(0, 4));
            Check.due("Terms: half (cut), PATCHED takes" + on, c[2], dayOf(3, 0, c[0], c[1]).of(0, 4));
            Check.due("Terms: half (cut), CHIEFS takes, and 1" + on, c[2] + 1, dayOf(4, 0, c[0], c[1]).of(0, 4));
            Check.due("Terms: a quarter (cut), OLD presses" + on, c[3], dayOf(5, 0, c[0], c[1]).cell(0, 0));
        }
    }

    private static void keepsNothing() {
        int[] grounds = {0, 1, 50, 98, 99};
        for (int kind = 0; kind < 7; kind++) {
            for (int g : grounds) {
                for (int worn = 0; worn < 100; worn += 33) {
                    GroundTents x = dayOf(kind, worn, -1, g);
                    Check.due("Terms: FELT that keeps nothing becomes g, kind " + kind, g, x.of(0, 4));
                    Check.due("Terms: and the CELL stays as it is, kind " + kind, g, x.cell(0, 0));
                }
            }
        }
        Edge.run("Terms: FELT 0 keeps something", "read(stiff on 0 felt 0 0 0 0) = 1", "go(1) = 1050", "cell(0, 0) = 0",
            "of(0, 4) = 0");
        Edge.run("Terms: piece by piece", "read(stiff on 0 felt 1 2 3 4) = 1", "change(0, 5, -1) = 2", "go(1) = 1108",
            "cell(1, 0) = 50", "of(0, 5) = 50", "cell(0, 0) = 1", "cell(5, 0) = 3", "cell(6, 0) = 4");
    }

    private static void oldFelt() {
        int[][] wornAndTaken = {{0, 90}, {48, 90}, {49, 90}, {50, 10}, {51, 10}, {99, 10}};
        for (int[] w : wornAndTaken) {
            GroundTents x = dayOf(5, w[0], 90, 10);
            Check.due("Terms: OLD takes f, if WORN is below 50, else g, WORN " + w[0], w[1], x.of(0, 4));
            Check.due("Terms: OLD presses alike, WORN " + w[0], 30, x.cell(0, 0));
        }
        Edge.run("Terms: WORN is more behind it: 45 is 50 on the next DAY",
            "read(old on 0 worn 45 felt 90 50 50 50;height 0 10) = 2", "go(1) = 1230", "of(0, 4) = 90", "of(0, 2) = 50",
            "go(1) = 1245", "of(0, 4) = 30", "of(0, 2) = 55");
    }

    private static void wears() {
        int[] wears = {1, 2, 1, 1, 0, 5, 4};
        for (int kind = 0; kind < 7; kind++) {
            for (int worn : new int[] {0, 1, 93, 94, 95, 96, 97, 98, 99}) {
                Check.due("Terms: WORN is more (99 at most), kind " + kind + " from " + worn, Math.min(99, worn + wears[kind]),
                    dayOf(kind, worn, 5, 5).of(0, 2));
            }
        }
        Edge.run("Terms: WORN stays at 99", "read(laced on 0 worn 99;old on 1 worn 98) = 2", "go(60) = 1254", "of(0, 2) = 99",
            "of(1, 2) = 99", "now(4) = 198");
    }

    private static void rolledUp() {
        for (int kind = 0; kind < 7; kind++) {
            Edge.run("Terms: a TENT that is ROLLED UP neither presses, takes nor wears, kind " + kind, "tent(" + kind + ") = 0",
                "change(0, 4, 9) = -1", "change(0, 2, 60) = 0", "go(60) = 1250", "of(0, 4) = 9", "of(0, 5) = -1",
                "of(0, 2) = 60", "of(0, 1) = -1");
        }
    }

    private static void order() {
        Edge.run("Terms: TENTS by numbers", "read(stiff on 0 felt 10 10 10 10;stiff on 0 felt 20 20 20 20) = 2", "go(1) = 1130",
            "cell(0, 0) = 20");
        Edge.run("Terms: TENTS by numbers, the other way round",
            "read(stiff on 0 felt 20 20 20 20;stiff on 0 felt 10 10 10 10) = 2", "go(1) = 1090", "cell(0, 0) = 10");
        Edge.run("Terms: CELLS by how they are then",
            "read(stiff on 0 felt 10 10 10 10;soft on 5;tent on 5 felt 30 30 30 30) = 3", "go(1) = 1070", "of(1, 4) = 10",
            "of(1, 5) = 50", "of(2, 4) = 20", "of(2, 5) = 40", "cell(6, 0) = 20");
        Edge.run("Terms: both by what was ahead of that",
            "read(soft on 0 felt 90 90 90 90;laced on 5 felt 10 10 10 10;chiefs on 15 felt 90 90 90 90) = 3", "go(1) = 1110",
            "of(0, 4) = 50", "of(0, 7) = 50", "of(1, 4) = 10", "cell(6, 0) = 11", "of(2, 4) = 71", "cell(24, 0) = 54");
    }

    private static void go() {
        Edge.run("9: n DAYS (1 to 60), the least", "go(1) = 1250", "now(0) = 1", "go(0) = BEYOND", "go(-1) = BEYOND",
            "now(0) = 1", "status(0) = 2");
        Edge.run("9: n DAYS (1 to 60), the greatest", "go(60) = 1250", "now(0) = 60", "go(61) = BEYOND", "now(0) = 60",
            "count(0) = 60");
        Edge.run("9: HEIGHTS of all CELLS together then", "read(laced on 0 felt 0 0 0 0) = 1", "now(1) = 1250", "go(1) = 1054",
            "now(1) = 1054");
        Edge.run("9: each of the DAYS", "read(chiefs on 0 felt 0 0 0 0) = 1", "go(2) = 1274", "of(0, 2) = 0",
            "cell(0, 0) = 56");
        GroundTents lowest = new GroundTents();
        GroundTents highest = new GroundTents();
        for (int c = 0; c < 25; c++) {
            lowest.height(c, 0);
            highest.height(c, 99);
        }
        Edge.run("9: the least HEIGHTS together", lowest, "go(60) = 0", "now(1) = 0", "now(5) = 0");
        Edge.run("9: the greatest HEIGHTS together", highest, "go(60) = 2475", "now(1) = 2475", "now(5) = 0",
            "count(4) = 2475");
    }

    private static void lastDay() {
        Edge.run("9: STATE: DAY would be above 99999", Camps.lastButOneDay(), "now(0) = 99998", "go(2) = STATE",
            "go(60) = STATE", "nomads(2) = STATE", "now(0) = 99998", "cell(6, 0) = 50", "go(1) = 1207", "now(0) = 99999",
            "go(1) = STATE", "nomads(1) = STATE", "status(4) = 5", "now(0) = 99999");
        Edge.run("Terms: DAY is 99999 at most, and what will be is told all the same", Camps.lastButOneDay(),
            "ahead(6, 100) = 7", "ahead(6, 2) = 7", "kindFor(0, 60) = 2", "settles() = 1", "go(1) = 1207", "height(6, 50) = 7",
            "ahead(6, 1) = 7", "settles() = 1", "now(0) = 99999");
        Edge.run("28: up to DAY 99999", Camps.lastButOneDay(), "nomads(1) = 1207", "now(0) = 99999", "count(0) = 99999",
            "nomads(1) = STATE");
        Edge.run("42: the DAY of an image, 99999 and the first", Camps.lastButOneDay(), "go(1) = 1207", "image() = 1",
            "undo() = 99999");
    }

    private static void now() {
        Edge.run("10: what 0 to 5, none of anything", "now(0) = 0", "now(1) = 1250", "now(2) = 0", "now(3) = 0", "now(4) = 0",
            "now(5) = 0", "now(6) = BEYOND", "now(-1) = BEYOND", "status(0) = 2");
        Edge.run("10: the greatest HEIGHT less the least, in the first and the last CELL", "height(0, 0) = 50", "now(5) = 50",
            "height(24, 99) = 50", "now(5) = 99", "height(0, 99) = 0", "now(5) = 49", "height(24, 0) = 99", "now(5) = 99");
        for (int c = 0; c < 25; c++) {
            Edge.run("10: each CELL counts", "height(" + c + ", 99) = 50", "now(5) = 49", "now(1) = 1299", "count(4) = 1299",
                "height(" + c + ", 0) = 99", "now(5) = 50", "now(1) = 1200", "spring(" + c + ", 1) = 0",
                "now(2) = " + (1 << c));
        }
        Edge.run("10: WORN of all together, the most", "read(old worn 99;old worn 99;old worn 99;old on 0 worn 99) = 4",
            "read(old worn 99;old worn 99) = 2", "now(4) = 594", "now(3) = 8", "count(2) = 1", "count(3) = 594");
    }
}
