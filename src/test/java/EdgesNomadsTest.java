/** The edges that the document names: draws; promises 28 to 30. */
public final class EdgesNomadsTest {
    private static final String SIX = "read(soft;soft;soft;soft;soft;soft) = 6";

    public static void main(String[] args) {
        draws();
        nomads();
        odds();
        seed();
        Check.end();
    }

    /** z is told; then the rest by 8 of its next draw, the rest by 16 of the one behind it, and z then. */
    private static void draws() {
        int[][] drawn = {{0, 0, 6, -740551042}, {1, 6, 0, -1770082073}, {2, 5, 11, 1495354192}, {4, 1, 0, -563707870},
            {16, 7, 13, -33178354}, {18, 3, 1, -2092240416}, {256, 5, 15, 1987477374}, {276, 5, 15, -1423274062},
            {147, 0, 0, -1757757239}, {1006, 0, 15, -1361649892}, {-1, 1, 12, 288979989},
            {Integer.MAX_VALUE, 1, 12, -1858503659}, {Integer.MIN_VALUE, 0, 6, 1406932606}};
        for (int[] d : drawn) {
            GroundTents x = Check.camp("soft;soft;soft;soft;soft;soft");
            x.seed(d[0]);
            x.nomads(1);
            Check.due("Terms: DRAWS wrap around, z from " + d[0], d[3], x.count(6));
            for (int t = 0; t < 6; t++) {
                Check.due("28: z " + d[0] + ", TENT " + t + ", z >>> 8 is never below 0", t == d[1] ? d[2] : -1, x.of(t, 1));
            }
            Check.due("28: z " + d[0] + ", those that are pitched", d[1] < 6 ? 1 : 0, x.count(2));
        }
    }

    private static void nomads() {
        Edge.run("28: n 1 to 20, the least", "nomads(1) = 1250", "now(0) = 1", "count(6) = -1770082073", "nomads(0) = BEYOND",
            "nomads(-1) = BEYOND", "now(0) = 1", "count(6) = -1770082073", "status(0) = 2");
        Edge.run("28: n 1 to 20, the greatest", "nomads(20) = 1250", "now(0) = 20", "nomads(21) = BEYOND", "now(0) = 20");
        Edge.run("28: if there is one: TENT 5 of six", SIX, "seed(2) = 1", "nomads(1) = 1250", "of(5, 1) = 11", "now(3) = 32");
        Edge.run("28: if there is one: no TENT 5 of five", "read(soft;soft;soft;soft;soft) = 5", "seed(2) = 1",
            "nomads(1) = 1250", "now(3) = 0", "now(0) = 1", "count(6) = 1495354192");
        Edge.run("28: if there is one: TENT 0 of none", "seed(0) = 1", "nomads(1) = 1250", "count(6) = -740551042",
            "now(0) = 1");
        Edge.run("28: there are never TENTS 6 and 7", SIX, "nomads(1) = 1250", "now(3) = 0", "seed(16) = -1770082073",
            "nomads(1) = 1250", "now(3) = 0", "now(0) = 2");
        Edge.run("28: then a DAY, on the PITCH that was drawn", "read(stiff felt 1 2 3 4) = 1", "seed(0) = 1",
            "nomads(1) = 1060", "cell(7, 0) = 1", "cell(8, 0) = 2", "cell(12, 0) = 3", "cell(13, 0) = 4", "of(0, 2) = 2");
        Edge.run("28: one that is pitched is pitched anew", "read(stiff on 15 felt 1 2 3 4) = 1", "seed(0) = 1",
            "nomads(1) = 1060", "of(0, 1) = 6", "cell(24, 0) = 50");
        Edge.run("28: one that is not drawn stays and presses, too", "read(stiff;stiff on 15 felt 1 2 3 4) = 2", "seed(0) = 1",
            "nomads(1) = 1060", "of(0, 1) = 6", "of(1, 1) = 15", "cell(24, 0) = 4");
        Edge.run("28: once, three times over, is three times", "read(laced;tent felt 9 8 7 6) = 2", "image() = 1",
            "nomads(1) = 1250", "nomads(1) = 1250", "nomads(1) = 1250", "count(6) = -1778682749", "undo() = 0",
            "nomads(3) = 1250", "count(6) = -1778682749", "now(0) = 3");
    }

    private static void odds() {
        Edge.run("29: no SPRING: 1 of 1", "odds(0, 0) = 1", "odds(0, 1) = 1", "odds(1, 0) = 1", "odds(1, 1) = 1",
            "odds(15, 0) = 1", "odds(15, 1) = 1");
        Edge.run("29: n 0 to 15, the least: no draws", "spring(12, 1) = 0", "odds(0, 0) = 1", "odds(0, 1) = 1",
            "odds(-1, 0) = BEYOND", "odds(-1, 1) = BEYOND");
        Edge.run("29: n 0 to 15, the greatest: 15 of 16 PITCHES, longs", "spring(24, 1) = 0",
            "odds(15, 0) = 437893890380859375", "odds(15, 1) = 1152921504606846976", "odds(1, 0) = 15", "odds(1, 1) = 16",
            "odds(16, 0) = BEYOND", "odds(16, 1) = BEYOND");
        Edge.run("29: what 0 and 1", "odds(1, -1) = BEYOND", "odds(1, 2) = BEYOND", "status(0) = 2");
        Edge.run("29: in lowest terms: 14, 12, 8 and 4 of 16", "spring(2, 1) = 0", "odds(2, 0) = 49", "odds(2, 1) = 64",
            "spring(2, 0) = 1", "spring(6, 1) = 0", "odds(2, 0) = 9", "odds(2, 1) = 16", "spring(8, 1) = 0", "odds(2, 0) = 1",
            "odds(2, 1) = 4", "odds(15, 1) = 32768", "spring(16, 1) = 0", "odds(15, 0) = 1", "odds(15, 1) = 1073741824");
        Edge.run("29: a SPRING on each PITCH: 0 of 1, but for no draws", "spring(6, 1) = 0", "spring(8, 1) = 0",
            "spring(16, 1) = 0", "spring(18, 1) = 0", "odds(1, 0) = 0", "odds(1, 1) = 1", "odds(15, 0) = 0", "odds(15, 1) = 1",
            "odds(0, 0) = 1", "odds(0, 1) = 1", "count(6) = 1");
    }

    private static void seed() {
        Edge.run("30: z becomes v: what it was; any int", "seed(MIN) = 1", "count(6) = MIN", "seed(MAX) = MIN", "seed(0) = MAX",
            "seed(-1) = 0", "seed(-1000001) = -1", "seed(1) = -1000001", "status(-1) = 0", "now(0) = 0");
    }
}
