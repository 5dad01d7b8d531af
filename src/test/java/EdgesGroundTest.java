/** The edges that the document names: findings, sets, cells, pitches, tents and kinds; promises 1 to 8. */
public final class EdgesGroundTest {
    public static void main(String[] args) {
        findings();
        sets();
        firstState();
        cells();
        neighbours();
        pitches();
        tents();
        of();
        change();
        beat();
        Check.end();
    }

    private static void findings() {
        Edge.run("Terms: LOW is -1000001: BEYOND", "height(25, 0) = -1000001");
        Edge.run("Terms: LOW - 1 FULL", "read(old;old;old;old;old;old) = 6", "tent(0) = -1000002");
        Edge.run("Terms: LOW - 2 KIND", "tent(0) = 0", "hold(0, 0) = 1", "as(0, 1) = -1000003");
        Edge.run("Terms: LOW - 3 NONE", "undo() = -1000004");
        Edge.run("Terms: LOW - 4 STATE", "tent(0) = 0", "lies(0, 0) = -1000005");
        Edge.run("Terms: LOW - 5 MISSING", "load(0) = -1000006");
        Edge.run("Terms: LOW - 6 SIZE", "sheet(0, 8, -1) = -1000007");
        Edge.run("Terms: findings in longs, too", "odds(16, 0) = -1000001", "odds(0, 2) = -1000001", "status(0) = 2");
        Edge.run("Terms: answers that are no findings are not counted", "seed(-1000001) = 1", "seed(-1000007) = -1000001",
            "count(6) = -1000007", "text() = -1", "status(-1) = 0");
    }

    private static void sets() {
        Edge.run("Terms: sets are told as bits, CELLS", "now(2) = 0", "spring(0, 1) = 0", "now(2) = 1", "spring(24, 1) = 0",
            "now(2) = 16777217", "spring(0, 0) = 1", "now(2) = 16777216");
        Edge.run("Terms: sets are told as bits, TENTS", "now(3) = 0", "read(old;old;old;old;old;old on 15) = 6", "now(3) = 32",
            "cell(24, 2) = 32", "change(0, 1, 15) = -1", "now(3) = 33", "cell(24, 2) = 33");
        Edge.run("Terms: sets are told as bits, all TENTS", "read(old on 0;old on 0;old on 0;old on 0;old on 0;old on 0) = 6",
            "now(3) = 63", "cell(0, 2) = 63", "cell(2, 2) = 0");
        Edge.run("Terms: sets are told as bits, all CELLS and one", "reach(7, 0) = 33554431", "height(7, 51) = 50",
            "reach(7, 0) = 128", "reach(24, 0) = 33554303");
        Edge.run("Terms: sets are told as bits, all PITCHES and KINDS, and none of them", "tent(2) = 0", "sheet(0, 8, 0) = 0",
            "fits(0, 0) = 65535", "kinds(0, 0) = 127", "fill(0, 8, 1) = 1", "fits(0, 0) = 0", "kinds(0, 0) = 0");
        Edge.run("Terms: sets are told as bits, the last PITCH", "tent(2) = 0", "height(24, 1) = 50",
            "fill(0, 8, -1, -1, -1, 1) = 4", "fits(0, 0) = 32768");
    }

    private static void firstState() {
        for (int c = 0; c < 25; c++) {
            Edge.run("1: HEIGHT 50, no SPRING, no TENT at first", "cell(" + c + ", 0) = 50", "cell(" + c + ", 1) = 0",
                "cell(" + c + ", 2) = 0", "cell(" + c + ", 3) = 0");
        }
        Edge.run("1: no TENTS", "count(1) = 0", "count(2) = 0", "now(3) = 0", "now(4) = 0", "of(0, 0) = BEYOND", "tent(6) = 0");
        Edge.run("1: THE TAPE is empty", "count(5) = 0", "wipe() = 0", "text() = -1");
        Edge.run("1: no image is kept", "undo() = NONE", "tear() = 0");
        Edge.run("1: DAY is 0, z is 1", "now(0) = 0", "count(0) = 0", "count(6) = 1", "seed(1) = 1");
        for (int spot = 0; spot < 10; spot++) {
            Edge.run("1: SPOTS hold nothing at first", "as(" + spot + ", 0) = MISSING", "count(7) = 0");
        }
        for (int s = 0; s < 4; s++) {
            Edge.run("1: SHEETS are MISSING at first", "load(" + s + ") = MISSING");
        }
        for (int which = -1; which < 7; which++) {
            Edge.run("1: nothing was found at first", "status(" + which + ") = 0");
        }
        Edge.run("10: on the first ground", "now(1) = 1250", "now(2) = 0", "now(5) = 0", "count(3) = 0", "count(4) = 1250");
    }

    private static void cells() {
        Edge.run("2: CELLS 0 to 24, the least", "height(0, 7) = 50", "cell(0, 0) = 7", "cell(1, 0) = 50", "now(1) = 1207");
        Edge.run("2: CELLS 0 to 24, the greatest", "height(24, 7) = 50", "cell(24, 0) = 7", "cell(23, 0) = 50",
            "now(1) = 1207");
        Edge.run("2: HEIGHT 0 to 99, what it was", "height(12, 0) = 50", "height(12, 99) = 0", "height(12, 98) = 99",
            "height(12, 1) = 98", "cell(12, 0) = 1");
        Edge.run("2: HEIGHT -1 and 100, nothing changes", "height(12, 99) = 50", "height(12, 100) = BEYOND",
            "height(12, -1) = BEYOND", "cell(12, 0) = 99", "status(0) = 2", "status(-1) = 2");
        Edge.run("3: SPRING 1 or 0, what it was, CELL 0", "spring(0, 0) = 0", "spring(0, 1) = 0", "spring(0, 1) = 1",
            "cell(0, 1) = 1", "spring(0, 0) = 1", "cell(0, 1) = 0");
        Edge.run("3: SPRING 1 or 0, what it was, CELL 24", "spring(24, 1) = 0", "cell(24, 1) = 1", "cell(23, 1) = 0",
            "spring(24, 0) = 1", "spring(24, 0) = 0");
        Edge.run("3: SPRING 2 and -1, nothing changes", "spring(5, 2) = BEYOND", "spring(5, -1) = BEYOND", "cell(5, 1) = 0",
            "spring(5, 1) = 0", "spring(5, 2) = BEYOND", "spring(5, -1) = BEYOND", "cell(5, 1) = 1", "status(0) = 4");
        Edge.run("4: the greatest difference there can be", "height(0, 0) = 50", "height(1, 99) = 50", "cell(0, 3) = 99",
            "cell(1, 3) = 99", "cell(5, 3) = 50", "cell(2, 3) = 49", "cell(6, 3) = 49");
        Edge.run("4: the greatest, not the first or the last", "ground(50, 53, 50, 50, 50, 51, 50, 54, 50, 50, 50, 52) = 12",
            "cell(6, 3) = 4", "height(11, 45) = 52", "cell(6, 3) = 5", "height(5, 44) = 51", "cell(6, 3) = 6",
            "height(1, 43) = 53", "cell(6, 3) = 7");
    }

    /** One cell at 99: just it and those one row or one column away see a difference. */
    private static void neighbours() {
        for (int peak = 0; peak < 25; peak++) {
            GroundTents x = new GroundTents();
            x.height(peak, 99);
            for (int c = 0; c < 25; c++) {
                int away = Math.abs(peak / 5 - c / 5) + Math.abs(peak % 5 - c % 5);
                Check.due("Terms: NEIGHBOURS of CELL " + peak + ", CELL " + c, away <= 1 ? 49 : 0, x.cell(c, 3));
            }
        }
    }

    private static void pitches() {
        for (int p = 0; p < 16; p++) {
            GroundTents x = Check.camp("stiff on " + p + " felt 1 2 3 4");
            int row = p / 4;
            int column = p % 4;
            int[] under = {5 * row + column, 5 * row + column + 1, 5 * (row + 1) + column, 5 * (row + 1) + column + 1};
            x.go(1);
            int[] want = new int[25];
            java.util.Arrays.fill(want, 50);
            for (int i = 0; i < 4; i++) {
                want[under[i]] = 1 + i;
            }
            for (int c = 0; c < 25; c++) {
                Check.due("Terms: PITCH " + p + " is of four CELLS, HEIGHT of CELL " + c, want[c], x.cell(c, 0));
                Check.due("4: TENTS pitched on CELL " + c + ", PITCH " + p, want[c] == 50 ? 0 : 1, x.cell(c, 2));
            }
        }
        Edge.run("Terms: PITCH 0 and its CELLS", "read(stiff on 0 felt 1 2 3 4) = 1", "go(1) = 1060", "cell(0, 0) = 1",
            "cell(1, 0) = 2", "cell(5, 0) = 3", "cell(6, 0) = 4");
        Edge.run("Terms: PITCH 3 and its CELLS", "read(stiff on 3 felt 1 2 3 4) = 1", "go(1) = 1060", "cell(3, 0) = 1",
            "cell(4, 0) = 2", "cell(8, 0) = 3", "cell(9, 0) = 4");
        Edge.run("Terms: PITCH 4 is in the next row", "read(stiff on 4 felt 1 2 3 4) = 1", "go(1) = 1060", "cell(5, 0) = 1",
            "cell(6, 0) = 2", "cell(10, 0) = 3", "cell(11, 0) = 4");
        Edge.run("Terms: PITCH 15 and its CELLS", "read(stiff on 15 felt 1 2 3 4) = 1", "go(1) = 1060", "cell(18, 0) = 1",
            "cell(19, 0) = 2", "cell(23, 0) = 3", "cell(24, 0) = 4");
    }

    private static void tents() {
        Edge.run("5: KINDS 0 to 6, at most 6 TENTS", "tent(0) = 0", "tent(6) = 1", "tent(-1) = BEYOND", "tent(7) = BEYOND",
            "tent(1) = 2", "tent(2) = 3", "tent(3) = 4", "count(1) = 5", "tent(4) = 5", "count(1) = 6", "tent(5) = FULL",
            "count(1) = 6", "of(6, 0) = BEYOND", "status(0) = 3", "status(1) = 1");
        Edge.run("5: a refused TENT takes no number", "tent(7) = BEYOND", "tent(-1) = BEYOND", "tent(5) = 0", "of(0, 0) = 5");
        for (int kind = 0; kind < 7; kind++) {
            Edge.run("5: a new TENT, ROLLED UP", "tent(" + kind + ") = 0", "of(0, 0) = " + kind, "of(0, 1) = -1",
                "of(0, 2) = 0", "of(0, 4) = -1", "of(0, 5) = -1", "of(0, 6) = -1", "of(0, 7) = -1", "now(3) = 0");
        }
    }

    private static void of() {
        int[] wears = {1, 2, 1, 1, 0, 5, 4};
        for (int kind = 0; kind < 7; kind++) {
            Edge.run("6: WEARS, also while ROLLED UP and worn out", "tent(" + kind + ") = 0", "of(0, 3) = " + wears[kind],
                "change(0, 2, 99) = 0", "change(0, 1, 15) = -1", "of(0, 3) = " + wears[kind]);
        }
        Edge.run("6: what 0 to 7, of the first and the last TENT",
            "read(soft;old;old;old;old;laced on 15 worn 99 felt 0 99 1 98) = 6", "of(0, 0) = 2", "of(0, 7) = -1",
            "of(5, 0) = 6", "of(5, 1) = 15", "of(5, 2) = 99", "of(5, 3) = 4", "of(5, 4) = 0", "of(5, 5) = 99", "of(5, 6) = 1",
            "of(5, 7) = 98", "of(5, 8) = BEYOND", "of(5, -1) = BEYOND", "of(6, 7) = BEYOND", "of(-1, 7) = BEYOND",
            "status(0) = 4");
    }

    private static void change() {
        Edge.run("7: KIND 0 to 6, what it was", "tent(3) = 0", "change(0, 0, 0) = 3", "change(0, 0, 6) = 0",
            "change(0, 0, 7) = BEYOND", "change(0, 0, -1) = BEYOND", "of(0, 0) = 6", "change(0, 0, 6) = 6");
        Edge.run("7: PITCH 0 to 15, -1: ROLLED UP, what it was", "tent(3) = 0", "change(0, 1, 0) = -1", "cell(0, 2) = 1",
            "change(0, 1, 15) = 0", "cell(0, 2) = 0", "cell(24, 2) = 1", "change(0, 1, 16) = BEYOND",
            "change(0, 1, -2) = BEYOND", "of(0, 1) = 15", "change(0, 1, -1) = 15", "cell(24, 2) = 0", "change(0, 1, -1) = -1",
            "count(2) = 0");
        Edge.run("7: WORN 0 to 99, what it was", "tent(3) = 0", "change(0, 2, 99) = 0", "change(0, 2, 100) = BEYOND",
            "change(0, 2, -1) = BEYOND", "change(0, 2, 0) = 99", "of(0, 2) = 0");
        for (int what = 4; what < 8; what++) {
            String felt = "change(0, " + what + ", ";
            Edge.run("7: FELT 0 to 99, -1: nothing, what it was", "tent(3) = 0", felt + "0) = -1", felt + "99) = 0",
                felt + "100) = BEYOND", felt + "-2) = BEYOND", "of(0, " + what + ") = 99", felt + "-1) = 99", felt + "-1) = -1",
                "beat(0) = 0");
        }
        Edge.run("7: WEARS (3) is not to be changed", "tent(3) = 0", "change(0, 3, 1) = BEYOND", "change(0, 3, 0) = BEYOND",
            "change(0, 8, 0) = BEYOND", "change(0, -1, 0) = BEYOND", "of(0, 3) = 1", "status(0) = 4");
        Edge.run("7: the last TENT there is, and the next", "read(old;old;old;old;old;old) = 6", "change(5, 2, 1) = 0",
            "change(6, 2, 1) = BEYOND", "change(-1, 2, 1) = BEYOND", "of(0, 2) = 0", "of(4, 2) = 0", "of(5, 2) = 1");
    }

    private static void beat() {
        Edge.run("8: how many pieces kept anything: none to four", "tent(0) = 0", "beat(0) = 0", "change(0, 7, 0) = -1",
            "beat(0) = 1", "of(0, 7) = -1", "change(0, 4, 0) = -1", "change(0, 5, 99) = -1", "beat(0) = 2",
            "read(old felt 0 0 0 0) = 1", "change(1, 6, -1) = 0", "beat(1) = 3", "read(old felt 0 0 0 0) = 1", "beat(2) = 4",
            "beat(2) = 0");
        Edge.run("8: only what it keeps", "read(laced on 3 worn 9 felt 1 2 3 4;old felt 5 6 7 8) = 2", "beat(0) = 4",
            "of(0, 0) = 6", "of(0, 1) = 3", "of(0, 2) = 9", "of(1, 4) = 5", "of(1, 7) = 8", "beat(2) = BEYOND",
            "beat(-1) = BEYOND");
    }
}
