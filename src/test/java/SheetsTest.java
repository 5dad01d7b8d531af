/** Promises 36 to 40: sheet, write, copy, load, judge. */
public final class SheetsTest {
    private static final int MIN = Integer.MIN_VALUE;
    private static final int MAX = Integer.MAX_VALUE;

    public static void main(String[] args) {
        sheet();
        write();
        copy();
        copyWrong();
        load();
        judge();
        Check.end();
    }

    private static void sheet() {
        GroundTents x = new GroundTents();
        Check.due("36: 8 bits", 40, x.sheet(0, 8, 40));
        Check.due("36: 16 bits", 1, x.sheet(1, 16, 1));
        Check.due("36: 32 bits", 0, x.sheet(3, 32, 0));
        Check.due("36: empty is not missing", 0, x.load(3));
        Check.due("36: missing, n is told", 0, x.sheet(3, 0, 7));
        Check.due("36: missing", Check.MISSING, x.load(3));
        x.write(0, 39, 5);
        x.sheet(0, 8, 40);
        Check.due("36: all 0 again", 25, x.load(0));
        Check.due("36: all 0 again, in heights", 0, x.now(1));
        x.write(0, 0, 7);
        x.sheet(0, 8, 0);
        x.sheet(0, 8, 1);
        x.load(0);
        Check.due("36: nothing comes back with a longer one", 0, x.cell(0, 0));
        int[][] wrong = {{-1, 8, 0, Check.BEYOND}, {4, 8, 0, Check.BEYOND}, {0, 7, 0, Check.BEYOND}, {0, 64, 0, Check.BEYOND},
            {0, -8, 0, Check.BEYOND}, {4, 8, -1, Check.BEYOND}, {0, 7, -1, Check.BEYOND}, {0, 8, -1, Check.SIZE},
            {0, 0, -1, Check.SIZE}, {0, 32, MIN, Check.SIZE}, {0, 8, 41, Check.BEYOND}, {0, 0, 41, Check.BEYOND},
            {0, 16, MAX, Check.BEYOND}};
        for (int[] w : wrong) {
            Check.due("36: sheet(" + w[0] + ", " + w[1] + ", " + w[2] + ")", w[3], x.sheet(w[0], w[1], w[2]));
        }
        Check.due("36: a finding changes nothing", 1, x.load(0));
    }

    private static void write() {
        GroundTents x = new GroundTents();
        x.sheet(0, 8, 2);
        Check.due("37: write(0, 1, 261)", 1, x.write(0, 1, 261));
        x.load(0);
        Check.due("37: the lowest 8 bits", 5, x.cell(1, 0));
        Check.due("37: only that number", 0, x.cell(0, 0));
        x.sheet(1, 16, 1);
        x.write(1, 0, 261);
        Check.due("37: 261 in 16 bits", 0, x.load(1));
        x.write(1, 0, 65536 + 61);
        Check.due("37: 65597 in 16 bits", 1, x.load(1));
        Check.due("37: the lowest 16 bits", 61, x.cell(0, 0));
        x.sheet(2, 32, 1);
        x.write(2, 0, 65536 + 61);
        Check.due("37: all 32 bits", 0, x.load(2));
        x.write(2, 0, 62);
        Check.due("37: 62 in 32 bits", 1, x.load(2));
        int[][] wrong = {{-1, 0, Check.BEYOND}, {4, 0, Check.BEYOND}, {3, 0, Check.MISSING}, {3, 99, Check.MISSING},
            {0, -1, Check.BEYOND}, {0, 2, Check.BEYOND}, {0, MAX, Check.BEYOND}, {0, MIN, Check.BEYOND}};
        for (int[] w : wrong) {
            Check.due("37: write(" + w[0] + ", " + w[1] + ", 1)", w[2], x.write(w[0], w[1], 1));
        }
    }

    private static void copy() {
        GroundTents x = new GroundTents();
        Check.sheet(x, 0, 8, 1, 2, 3, 4, 5);
        x.sheet(1, 8, 3);
        Check.due("38: copy(0, 1, 1, 0, 3)", 3, x.copy(0, 1, 1, 0, 3));
        x.load(1);
        heights("38: to another one", x, 2, 3, 4);
        Check.due("38: upon itself, on", 4, x.copy(0, 0, 0, 1, 4));
        x.load(0);
        heights("38: as they all were", x, 1, 1, 2, 3, 4);
        Check.due("38: upon itself, back", 4, x.copy(0, 1, 0, 0, 4));
        x.load(0);
        heights("38: as they all were, back", x, 1, 2, 3, 4, 4);
        Check.due("38: none, at the end", 0, x.copy(0, 5, 1, 3, 0));
        Check.due("38: all", 3, x.copy(1, 0, 0, 2, 3));
        x.load(0);
        heights("38: to the end", x, 1, 2, 2, 3, 4);
    }

    private static void heights(String what, GroundTents x, int... want) {
        for (int c = 0; c < want.length; c++) {
            Check.due(what + ", number " + c, want[c], x.cell(c, 0));
        }
    }

    private static void copyWrong() {
        GroundTents x = new GroundTents();
        Check.sheet(x, 0, 8, 1, 2, 3, 4, 5);
        x.sheet(1, 8, 3);
        x.sheet(2, 16, 5);
        int[][] wrong = {{-1, 0, 0, 0, 0, Check.BEYOND}, {4, 0, 0, 0, 0, Check.BEYOND}, {0, 0, -1, 0, 0, Check.BEYOND},
            {3, 0, 4, 0, 0, Check.BEYOND}, {0, 0, 3, 0, 0, Check.MISSING}, {3, 0, 0, 0, 0, Check.MISSING},
            {2, -1, 3, -1, -1, Check.MISSING}, {0, 0, 2, 0, 0, Check.KIND}, {2, -1, 0, 9, -1, Check.KIND},
            {0, 0, 1, 0, 4, Check.BEYOND}, {0, 3, 1, 0, 3, Check.BEYOND}, {0, 0, 1, 1, 3, Check.BEYOND},
            {0, -1, 1, 0, 1, Check.BEYOND}, {0, 0, 1, -1, 1, Check.BEYOND}, {0, 0, 1, 0, -1, Check.BEYOND},
            {0, 6, 1, 0, 0, Check.BEYOND}, {0, 0, 1, 4, 0, Check.BEYOND}, {0, MAX, 1, 0, 1, Check.BEYOND},
            {0, 1, 1, 0, MAX, Check.BEYOND}, {0, MAX, 1, MAX, MAX, Check.BEYOND}, {0, MIN, 1, MIN, MIN, Check.BEYOND}};
        for (int[] w : wrong) {
            Check.due("38: copy(" + w[0] + ", " + w[1] + ", " + w[2] + ", " + w[3] + ", " + w[4] + ")", w[5],
                x.copy(w[0], w[1], w[2], w[3], w[4]));
        }
        x.load(1);
        heights("38: a finding changes nothing", x, 0, 0, 0);
    }

    private static void load() {
        GroundTents x = new GroundTents();
        Check.sheet(x, 0, 16, 0, 99, 5, 100, 6);
        Check.due("39: up to one above 99", 3, x.load(0));
        heights("39: what came", x, 0, 99, 5, 50, 50);
        x.write(0, 0, -1);
        Check.due("39: one below 0", 0, x.load(0));
        Check.due("39: nothing came", 0, x.cell(0, 0));
        x.sheet(1, 8, 40);
        for (int i = 0; i < 40; i++) {
            x.write(1, i, i);
        }
        Check.due("39: as many as there are cells", 25, x.load(1));
        Check.due("39: the last one", 24, x.cell(24, 0));
        Check.due("39: load(-1)", Check.BEYOND, x.load(-1));
        Check.due("39: load(4)", Check.BEYOND, x.load(4));
        Check.due("39: load(2)", Check.MISSING, x.load(2));
    }

    private static void judge() {
        GroundTents x = new GroundTents();
        x.height(2, 60);
        Check.sheet(x, 0, 8, 0, 1, 2, 7, 12, 11, 10, 11);
        Check.due("40: a way", 0, x.judge(0, 10));
        Check.due("40: too steep", 3, x.judge(0, 9));
        Check.sheet(x, 0, 8, 2, 1, 0);
        Check.due("40: too steep, down", 2, x.judge(0, 9));
        Check.sheet(x, 0, 8, 24, 19, 18, 23, 24);
        Check.due("40: up, left, down, right", 0, x.judge(0, 0));
        Check.sheet(x, 0, 8);
        Check.due("40: no numbers", 0, x.judge(0, 0));
        Check.sheet(x, 0, 32, 24);
        Check.due("40: one", 0, x.judge(0, 0));
        int[][] broken = {{25, 1}, {-1, 1}, {MIN, 1}, {MAX, 1}};
        for (int[] b : broken) {
            Check.sheet(x, 0, 32, b[0]);
            Check.due("40: no cell " + b[0], b[1], x.judge(0, 99));
            Check.sheet(x, 0, 32, 23, 24, b[0]);
            Check.due("40: no cell behind two, " + b[0], 3, x.judge(0, 99));
        }
        Check.sheet(x, 0, 8, 4, 5);
        Check.due("40: rows don't run on", 2, x.judge(0, 99));
        Check.sheet(x, 0, 8, 6, 0);
        Check.due("40: not slanting", 2, x.judge(0, 99));
        Check.sheet(x, 0, 8, 6, 6);
        Check.due("40: not on the spot", 2, x.judge(0, 99));
        Check.due("40: judge(-1, 0)", Check.BEYOND, x.judge(-1, 0));
        Check.due("40: judge(4, 100)", Check.BEYOND, x.judge(4, 100));
        Check.due("40: MISSING is asked ahead of the climb", Check.MISSING, x.judge(3, 100));
        Check.due("40: judge(0, 100)", Check.BEYOND, x.judge(0, 100));
        Check.due("40: judge(0, -1)", Check.BEYOND, x.judge(0, -1));
    }
}
