/** The edges that the document names: spots and sheets; promises 34 to 40. */
public final class EdgesSheetsTest {
    public static void main(String[] args) {
        hold();
        as();
        sheet();
        lowestBits();
        write();
        copy();
        load();
        judge();
        Check.end();
    }

    private static void hold() {
        Edge.run("34: SPOTS 0 to 9", "read(old;soft) = 2", "hold(0, 0) = 1", "hold(9, 1) = 1", "as(0, 0) = 0", "as(9, 0) = 1",
            "count(7) = 2", "hold(10, 0) = BEYOND", "hold(-1, 0) = BEYOND", "count(7) = 2", "as(1, 0) = MISSING",
            "as(8, 0) = MISSING");
        Edge.run("34: a TENT, or nothing (-1)", "hold(0, -1) = 1", "hold(0, 0) = BEYOND", "tent(0) = 0", "hold(0, 0) = 1",
            "hold(0, 1) = BEYOND", "hold(0, -2) = BEYOND", "as(0, 0) = 0", "hold(0, -1) = 1", "as(0, 0) = MISSING",
            "count(7) = 0", "hold(0, -1) = 1");
        Edge.run("34: the last of six TENTS, and none behind it", "read(old;old;old;old;old;laced) = 6", "hold(3, 5) = 1",
            "hold(3, 6) = BEYOND", "as(3, 6) = 5");
        GroundTents x = Check.camp("old");
        for (int spot = 0; spot < 10; spot++) {
            Edge.run("34: all SPOTS may hold one TENT", x, "hold(" + spot + ", 0) = 1", "count(7) = " + (spot + 1));
        }
    }

    private static void as() {
        // for each kind those that it is of: itself, and what it is under
        String[] kinds = {"0", "0 1", "0 2", "0 2 3", "0 2 3 4", "0 5", "0 1 6"};
        for (int kind = 0; kind < 7; kind++) {
            for (int as = 0; as < 7; as++) {
                boolean under = kinds[kind].contains(String.valueOf(as));
                Edge.run("35: of that kind, or of one under it", "tent(0) = 0", "tent(" + kind + ") = 1", "hold(5, 1) = 1",
                    "as(5, " + as + ") = " + (under ? "1" : "KIND"), "status(2) = " + (under ? 0 : 1));
            }
        }
        Edge.run("35: kind 0 to 6", "tent(6) = 0", "hold(0, 0) = 1", "as(0, 0) = 0", "as(0, 6) = 0", "as(0, 7) = BEYOND",
            "as(0, -1) = BEYOND", "status(0) = 2");
        Edge.run("35: BEYOND, MISSING, KIND, in this order", "tent(6) = 0", "hold(0, 0) = 1", "as(10, 7) = BEYOND",
            "as(1, 7) = BEYOND", "as(1, 2) = MISSING", "as(0, 2) = KIND", "status(0) = 2", "status(5) = 1", "status(2) = 1");
        Edge.run("35: what it holds, by the kind that it is of then", "tent(4) = 0", "hold(0, 0) = 1", "as(0, 3) = 0",
            "change(0, 0, 5) = 4", "as(0, 3) = KIND", "as(0, 5) = 0");
    }

    private static void sheet() {
        Edge.run("36: SHEETS 0 to 3", "sheet(0, 8, 1) = 1", "sheet(3, 32, 1) = 1", "sheet(4, 8, 1) = BEYOND",
            "sheet(-1, 8, 1) = BEYOND", "load(0) = 1", "load(1) = MISSING", "load(2) = MISSING", "load(3) = 1");
        for (int bits = 8; bits <= 32; bits *= 2) {
            String sheet = "sheet(0, " + bits + ", ";
            Edge.run("36: at most 40 numbers, of " + bits + " bits", sheet + "40) = 40", "write(0, 39, 1) = 1",
                "write(0, 40, 1) = BEYOND", sheet + "41) = BEYOND", "copy(0, 39, 0, 0, 1) = 1", "load(0) = 25",
                "cell(0, 0) = 1", sheet + "0) = 0", "write(0, 0, 1) = BEYOND", "load(0) = 0", sheet + "-1) = SIZE",
                "load(0) = 0", sheet + "1) = 1", "write(0, 0, 1) = 1");
            Edge.run("36: all 0, also what was written, of " + bits + " bits", sheet + "2) = 2", "write(0, 0, 7) = 1",
                "write(0, 1, 8) = 1", sheet + "1) = 1", sheet + "2) = 2", "load(0) = 2", "cell(0, 0) = 0", "cell(1, 0) = 0");
            Edge.run("36: bits 0: it is MISSING, and new it is all 0, of " + bits + " bits", sheet + "2) = 2",
                "write(0, 1, 8) = 1", "sheet(0, 0, 2) = 0", "load(0) = MISSING", sheet + "2) = 2", "load(0) = 2",
                "cell(1, 0) = 0");
        }
        Edge.run("36: bits 0: 0, whatever n is", "sheet(0, 0, 0) = 0", "sheet(0, 0, 40) = 0", "sheet(0, 8, 3) = 3",
            "sheet(0, 0, 3) = 0", "write(0, 0, 1) = MISSING");
        Edge.run("36: bits 0: SIZE below 0, BEYOND above 40, and it is not MISSING by that", "sheet(0, 8, 3) = 3",
            "sheet(0, 0, -1) = SIZE", "sheet(0, 0, 41) = BEYOND", "load(0) = 3");
        Edge.run("36: BEYOND, SIZE, BEYOND, in this order", "sheet(4, 8, -1) = BEYOND", "sheet(0, 9, -1) = BEYOND",
            "sheet(0, 8, -1) = SIZE", "sheet(0, 8, 41) = BEYOND", "sheet(4, 9, 41) = BEYOND", "status(0) = 4", "status(6) = 1");
        Edge.run("36: a sheet's own bits become others", "fill(0, 8, 5, 6) = 2", "sheet(0, 16, 2) = 2", "write(0, 0, 261) = 1",
            "load(0) = 0", "sheet(0, 8, 2) = 2", "write(0, 0, 261) = 1", "load(0) = 2", "cell(0, 0) = 5");
    }

    /** What is written, and how it is read in 8, 16 and 32 bits: a height, or none (N). */
    private static void lowestBits() {
        String[] rows = {"0 0 0 0", "99 99 99 99", "127 N N N", "128 N N N", "255 N N N", "256 0 N N", "257 1 N N",
            "355 99 N N", "356 N N N", "511 N N N", "512 0 N N", "32768 0 N N", "65535 N N N", "65536 0 0 N", "65635 99 99 N",
            "65636 N N N", "65792 0 N N", "16777216 0 0 N", "-1 N N N", "-128 N N N", "-156 N N N", "-157 99 N N", "-255 1 N N",
            "-256 0 N N", "-65535 1 1 N", "-65536 0 0 N", "MIN 0 0 N", "MAX N N N", "-2147483647 1 1 N"};
        for (String row : rows) {
            String[] r = row.split(" ");
            for (int i = 1; i <= 3; i++) {
                boolean none = r[i].equals("N");
                Edge.run("37: its lowest bits, of " + (4 << i), "sheet(0, " + (4 << i) + ", 1) = 1",
                    "write(0, 0, " + r[0] + ") = 1", "load(0) = " + (none ? 0 : 1), "cell(0, 0) = " + (none ? "50" : r[i]));
            }
        }
        Edge.run("37: 255 in 8 bits, 65535 in 16 bits are -1: any", "tent(2) = 0", "fill(0, 8, 255) = 1", "fits(0, 0) = 65535",
            "fill(0, 16, 65535) = 1", "fits(0, 0) = 65535", "fill(0, 16, 255) = 1", "fits(0, 0) = 0", "fill(0, 32, 65535) = 1",
            "fits(0, 0) = 0", "fill(0, 32, -1) = 1", "fits(0, 0) = 65535");
    }

    private static void write() {
        Edge.run("37: the first and the last number", "sheet(0, 8, 5) = 5", "write(0, 0, 1) = 1", "write(0, 4, 2) = 1",
            "write(0, 5, 3) = BEYOND", "write(0, -1, 3) = BEYOND", "load(0) = 5", "cell(0, 0) = 1", "cell(1, 0) = 0",
            "cell(3, 0) = 0", "cell(4, 0) = 2", "cell(5, 0) = 50");
        Edge.run("37: a sheet of no numbers", "sheet(0, 8, 0) = 0", "write(0, 0, 1) = BEYOND", "write(0, -1, 1) = BEYOND",
            "status(0) = 2");
        Edge.run("37: BEYOND, MISSING, BEYOND, in this order", "write(4, 99, 1) = BEYOND", "write(0, 99, 1) = MISSING",
            "write(0, -1, 1) = MISSING", "sheet(0, 8, 1) = 1", "write(0, 99, 1) = BEYOND", "status(0) = 2", "status(5) = 2");
        Edge.run("37: only that sheet", "sheet(0, 8, 1) = 1", "sheet(1, 8, 1) = 1", "write(1, 0, 9) = 1", "load(0) = 1",
            "cell(0, 0) = 0", "load(1) = 1", "cell(0, 0) = 9");
    }

    private static void copy() {
        Edge.run("38: all 40 numbers", "sheet(0, 8, 40) = 40", "sheet(1, 8, 40) = 40", "write(0, 0, 7) = 1",
            "write(0, 39, 9) = 1", "copy(0, 0, 1, 0, 40) = 40", "copy(1, 39, 1, 1, 1) = 1", "load(1) = 25", "cell(0, 0) = 7",
            "cell(1, 0) = 9", "cell(2, 0) = 0");
        Edge.run("38: no numbers", "fill(0, 8, 1, 2) = 2", "sheet(1, 8, 0) = 0", "copy(0, 0, 1, 0, 0) = 0",
            "copy(0, 2, 1, 0, 0) = 0", "copy(1, 0, 0, 2, 0) = 0", "copy(0, 3, 1, 0, 0) = BEYOND",
            "copy(0, 0, 1, 1, 0) = BEYOND", "copy(0, 0, 1, 0, 1) = BEYOND", "copy(1, 0, 0, 0, 1) = BEYOND", "load(0) = 2",
            "cell(1, 0) = 2");
        Edge.run("38: to another one from one on", "fill(0, 8, 1, 2, 3) = 3", "sheet(1, 8, 4) = 4", "copy(0, 1, 1, 2, 2) = 2",
            "load(1) = 4", "cell(0, 0) = 0", "cell(1, 0) = 0", "cell(2, 0) = 2", "cell(3, 0) = 3",
            "copy(0, 1, 1, 3, 2) = BEYOND", "copy(0, 2, 1, 2, 2) = BEYOND", "load(0) = 3", "cell(0, 0) = 1");
        Edge.run("38: as they all were: upon itself, on", "fill(0, 8, 1, 2, 3, 4) = 4", "copy(0, 0, 0, 1, 3) = 3",
            "load(0) = 4", "cell(0, 0) = 1", "cell(1, 0) = 1", "cell(2, 0) = 2", "cell(3, 0) = 3");
        Edge.run("38: as they all were: upon itself, back", "fill(0, 8, 1, 2, 3, 4) = 4", "copy(0, 1, 0, 0, 3) = 3",
            "load(0) = 4", "cell(0, 0) = 2", "cell(1, 0) = 3", "cell(2, 0) = 4", "cell(3, 0) = 4");
        Edge.run("38: as they all were: upon itself, all", "fill(0, 8, 1, 2, 3, 4) = 4", "copy(0, 0, 0, 0, 4) = 4",
            "load(0) = 4", "cell(0, 0) = 1", "cell(3, 0) = 4");
        Edge.run("38: KIND: they are not of as many bits", "sheet(0, 8, 1) = 1", "sheet(1, 16, 1) = 1", "sheet(2, 32, 1) = 1",
            "copy(0, 0, 1, 0, 1) = KIND", "copy(1, 0, 2, 0, 1) = KIND", "copy(2, 0, 0, 0, 0) = KIND", "copy(1, 0, 1, 0, 1) = 1",
            "sheet(1, 8, 1) = 1", "copy(0, 0, 1, 0, 1) = 1", "status(2) = 3");
        Edge.run("38: BEYOND, MISSING, KIND, BEYOND, in this order", "sheet(0, 8, 1) = 1", "sheet(1, 16, 1) = 1",
            "copy(2, 9, 4, 9, 9) = BEYOND", "copy(-1, 9, 2, 9, 9) = BEYOND", "copy(2, 9, 0, 9, 9) = MISSING",
            "copy(0, 9, 2, 9, 9) = MISSING", "copy(0, 9, 1, 9, 9) = KIND", "copy(0, 9, 0, 9, 9) = BEYOND", "status(0) = 3",
            "status(5) = 2", "status(2) = 1");
        Edge.run("38: sums that wrap around", "sheet(0, 8, 5) = 5", "copy(0, MAX, 0, 0, MAX) = BEYOND",
            "copy(0, 1, 0, 1, MAX) = BEYOND", "copy(0, MIN, 0, MIN, MIN) = BEYOND", "copy(0, MAX, 0, 0, 1) = BEYOND",
            "copy(0, 0, 0, MAX, 2) = BEYOND");
    }

    private static void load() {
        Edge.run("39: a sheet of no numbers", "sheet(0, 8, 0) = 0", "load(0) = 0", "now(1) = 1250", "status(-1) = 0");
        Edge.run("39: 0 and 99 come", "fill(0, 8, 0, 99) = 2", "load(0) = 2", "cell(0, 0) = 0", "cell(1, 0) = 99",
            "cell(2, 0) = 50");
        Edge.run("39: it ends at the first that isn't 0 to 99: 100", "fill(0, 8, 1, 2, 100, 4) = 4", "load(0) = 2",
            "cell(1, 0) = 2", "cell(2, 0) = 50", "cell(3, 0) = 50");
        Edge.run("39: it ends at the first that isn't 0 to 99: -1", "fill(0, 8, 1, 2, -1, 4) = 4", "load(0) = 2",
            "cell(1, 0) = 2", "cell(2, 0) = 50", "cell(3, 0) = 50");
        Edge.run("39: none come", "fill(0, 32, 100, 1) = 2", "load(0) = 0", "cell(0, 0) = 50", "cell(1, 0) = 50",
            "fill(0, 32, MIN, 1) = 2", "load(0) = 0", "fill(0, 32, MAX, 1) = 2", "load(0) = 0");
        for (int n = 23; n <= 40; n++) {
            Edge.run("39: or for which there is no CELL", "sheet(0, 8, " + n + ") = " + n, "load(0) = " + Math.min(25, n),
                "now(1) = " + 50 * Math.max(0, 25 - n));
        }
        Edge.run("39: the last that comes, whatever is behind it", "sheet(0, 8, 40) = 40", "write(0, 24, 99) = 1",
            "write(0, 25, 100) = 1", "load(0) = 25", "cell(24, 0) = 99", "write(0, 24, 100) = 1", "load(0) = 24",
            "cell(24, 0) = 99");
        Edge.run("39: BEYOND, MISSING", "load(-1) = BEYOND", "load(4) = BEYOND", "load(0) = MISSING", "load(3) = MISSING",
            "status(0) = 2", "status(5) = 2");
    }

    private static void judge() {
        Edge.run("40: a sheet of no numbers, and of one", "sheet(0, 8, 0) = 0", "judge(0, 0) = 0", "fill(0, 8, 0) = 1",
            "judge(0, 0) = 0", "fill(0, 8, 24) = 1", "judge(0, 0) = 0");
        Edge.run("40: the first isn't a CELL", "fill(0, 8, 25) = 1", "judge(0, 99) = 1", "fill(0, 8, -1, 0) = 2",
            "judge(0, 99) = 1", "fill(0, 32, MIN) = 1", "judge(0, 99) = 1", "fill(0, 32, MAX, 24) = 2", "judge(0, 99) = 1",
            "status(-1) = 0");
        Edge.run("40: a later one isn't a CELL", "fill(0, 8, 24, 25) = 2", "judge(0, 99) = 2", "fill(0, 8, 23, 24, 29) = 3",
            "judge(0, 99) = 3", "fill(0, 8, 0, -1) = 2", "judge(0, 99) = 2", "fill(0, 8, 0, -5) = 2", "judge(0, 99) = 2");
        Edge.run("40: from NEIGHBOUR to NEIGHBOUR", "fill(0, 8, 0, 1, 6, 5, 0, 5, 10) = 7", "judge(0, 0) = 0",
            "fill(0, 8, 0, 0) = 2", "judge(0, 99) = 2", "fill(0, 8, 0, 2) = 2", "judge(0, 99) = 2", "fill(0, 8, 0, 6) = 2",
            "judge(0, 99) = 2", "fill(0, 8, 4, 5) = 2", "judge(0, 99) = 2", "fill(0, 8, 5, 4) = 2", "judge(0, 99) = 2",
            "fill(0, 8, 0, 20) = 2", "judge(0, 99) = 2", "fill(0, 8, 24, 19, 14) = 3", "judge(0, 0) = 0");
        Edge.run("40: with a CLIMB, up and down", "height(1, 57) = 50", "fill(0, 8, 0, 1, 2) = 3", "judge(0, 7) = 0",
            "judge(0, 6) = 2", "fill(0, 8, 1, 2, 3) = 3", "judge(0, 7) = 0", "judge(0, 6) = 2", "judge(0, 0) = 2");
        Edge.run("40: the CLIMB 0 to 99", "height(0, 0) = 50", "height(1, 99) = 50", "fill(0, 8, 0, 1) = 2", "judge(0, 99) = 0",
            "judge(0, 98) = 2", "judge(0, 100) = BEYOND", "judge(0, -1) = BEYOND");
        Edge.run("40: the first that isn't so", "fill(0, 8, 0, 1, 1, 9, 99) = 5", "judge(0, 99) = 3");
        GroundTents x = new GroundTents();
        x.sheet(0, 8, 40);
        for (int i = 0; i < 40; i++) {
            x.write(0, i, i % 2);
        }
        Edge.run("40: 40 numbers, there and back", x, "judge(0, 0) = 0", "write(0, 39, 2) = 1", "judge(0, 0) = 40",
            "write(0, 0, 2) = 1", "judge(0, 0) = 40", "write(0, 0, 3) = 1", "judge(0, 0) = 2");
        Edge.run("40: BEYOND, MISSING, BEYOND, in this order", "judge(4, 100) = BEYOND", "judge(-1, 100) = BEYOND",
            "judge(0, 100) = MISSING", "sheet(0, 8, 0) = 0", "judge(0, 100) = BEYOND", "judge(0, -1) = BEYOND", "status(0) = 4",
            "status(5) = 1");
    }
}
