/** Promises 9 and 10: go, now; what each kind presses, takes and wears on a day. */
public final class DaysTest {
    public static void main(String[] args) {
        kindsOnADay();
        edgesOfFelt();
        oldFelt();
        order();
        go();
        lastDay();
        now();
        Check.end();
    }

    /** On pitch 5 (cells 6, 7, 11, 12) all of height 40, with felt 71, 40, 9 and none. */
    private static void kindsOnADay() {
        int[][] presses = {{55, 40, 24}, {71, 40, 9}, {40, 40, 40}, {41, 40, 40}, {44, 43, 43}, {47, 40, 32}, {72, 41, 10}};
        int[][] takes = {{55, 40, 24}, {71, 40, 9}, {40, 40, 40}, {55, 40, 24}, {56, 41, 25}, {71, 40, 9}, {71, 40, 9}};
        int[] worn = {11, 12, 11, 11, 10, 15, 14};
        int[] cells = {6, 7, 11, 12};
        for (int kind = 0; kind < 7; kind++) {
            GroundTents x = Check.camp("tent on 5 worn 10 felt 71 40 9 1");
            x.change(0, 7, -1);
            x.change(0, 0, kind);
            int sum = 21 * 50 + 40;
            for (int i = 0; i < 4; i++) {
                x.height(cells[i], 40);
                sum += i < 3 ? presses[kind][i] : 0;
            }
            Check.due("9: a day of kind " + kind, sum, x.go(1));
            for (int i = 0; i < 3; i++) {
                Check.due("9: kind " + kind + " presses " + i, presses[kind][i], x.cell(cells[i], 0));
            }
            Check.due("9: a cell under felt that kept nothing", 40, x.cell(12, 0));
            Check.feltOf("9: kind " + kind + " takes", x, 0, takes[kind][0], takes[kind][1], takes[kind][2], 40);
            Check.due("9: kind " + kind + " is worn", worn[kind], x.of(0, 2));
        }
    }

    private static void edgesOfFelt() {
        GroundTents x = Check.camp("laced on 0 felt 99 98 0 99");
        x.go(1);
        Check.due("9: laced holds at 99", 99, x.cell(0, 0));
        Check.due("9: laced comes to 99", 99, x.cell(1, 0));
        Check.due("9: laced lifts 0", 1, x.cell(5, 0));
        x = Check.camp("chiefs on 0 felt 99 99 99 99;height 0 99;height 1 98;height 5 97;height 6 95");
        x.go(1);
        Check.due("9: chiefs hold at 99", 99, x.cell(0, 0));
        Check.due("9: chiefs hold at 99, from 98", 99, x.cell(1, 0));
        Check.due("9: chiefs hold at 99, from 97", 99, x.cell(5, 0));
        Check.due("9: chiefs press 4", 99, x.cell(6, 0));
        Check.feltOf("9: chiefs take", x, 0, 99, 99, 99, 98);
        x = Check.camp("chiefs on 0");
        x.go(1);
        Check.feltOf("9: felt that keeps nothing becomes the ground, nothing more", x, 0, 50, 50, 50, 50);
        x = Check.camp("laced on 0 worn 96;old worn 50 felt 1 2 3 4");
        x.go(2);
        Check.due("9: worn holds at 99", 99, x.of(0, 2));
        Check.due("9: rolled up, nothing wears", 50, x.of(1, 2));
        Check.feltOf("9: rolled up, nothing is taken", x, 1, 1, 2, 3, 4);
    }

    private static void oldFelt() {
        GroundTents x = Check.camp("old on 0 worn 45 felt 10 10 10 10");
        x.go(1);
        Check.due("9: old, worn 45, keeps", 10, x.of(0, 4));
        Check.due("9: old is worn by 5", 50, x.of(0, 2));
        Check.due("9: old presses a quarter", 40, x.cell(0, 0));
        x.go(1);
        Check.due("9: old, worn 50, takes what was there", 40, x.of(0, 4));
        Check.due("9: old presses by what it kept ahead", 32, x.cell(0, 0));
        x = Check.camp("old on 0 worn 49 felt 10 10 10 10");
        x.go(1);
        Check.due("9: old, worn 49, keeps", 10, x.of(0, 4));
    }

    private static void order() {
        GroundTents x = Check.camp("stiff on 0 felt 10 10 10 10;tent on 0 felt 20 20 20 20;soft on 0");
        Check.due("9: tents by numbers", 21 * 50 + 4 * 15, x.go(1));
        Check.due("9: the second finds what the first left", 15, x.of(1, 4));
        Check.due("9: the third finds what the second left", 15, x.of(2, 4));
    }

    private static void go() {
        GroundTents x = Check.camp("laced on 0");
        Check.due("9: go(0)", Check.BEYOND, x.go(0));
        Check.due("9: go(61)", Check.BEYOND, x.go(61));
        Check.due("9: go(-1)", Check.BEYOND, x.go(-1));
        Check.due("9: a finding is no day", 0, x.now(0));
        Check.due("9: go(60)", 1254, x.go(60));
        Check.due("9: sixty days", 60, x.now(0));
        Check.due("9: go(1)", 1254, x.go(1));
        Check.due("9: sixty-one days", 61, x.count(0));
    }

    /** Only more calls than an object is used for lead there; what the words ask is tested all the same. */
    private static void lastDay() {
        GroundTents x = Check.camp("stiff on 0 felt 1 1 1 1");
        for (int i = 0; i < 1666; i++) {
            x.go(60);
        }
        x.height(0, 50);
        Check.due("9: one day too many", Check.STATE, x.go(40));
        Check.due("9: BEYOND is asked ahead of STATE", Check.BEYOND, x.go(61));
        Check.due("9: a finding is no day", 99960, x.now(0));
        Check.due("9: no height changes", 50, x.cell(0, 0));
        x.go(20);
        Check.due("28: one day too many", Check.STATE, x.nomads(20));
        Check.due("28: a finding draws nothing", 1, x.count(6));
        x.image();
        x.go(19);
        Check.due("9: up to the last day", 99999, x.now(0));
        x.undo();
        x.nomads(19);
        Check.due("9: the last day", 99999, x.now(0));
        Check.due("9: no more", Check.STATE, x.go(1));
        Check.due("28: no more", Check.STATE, x.nomads(1));
        x.height(6, 9);
        x.change(0, 1, 5);
        Check.due("15: what would be is told all the same", 1, x.ahead(6, 1));
    }

    private static void now() {
        GroundTents x = Check.camp("stiff on 3 worn 5;tent worn 20;soft on 2 worn 99;spring 0;spring 24;height 7 3;height 8 90");
        Check.due("10: day", 0, x.now(0));
        Check.due("10: heights", 1243, x.now(1));
        Check.due("10: springs", 1 + (1 << 24), x.now(2));
        Check.due("10: pitched", 5, x.now(3));
        Check.due("10: worn, of those rolled up, too", 124, x.now(4));
        Check.due("10: greatest less least", 87, x.now(5));
        x.go(2);
        Check.due("10: day, later", 2, x.now(0));
        Check.due("10: worn, later", 128, x.now(4));
        Check.due("10: now(-1)", Check.BEYOND, x.now(-1));
        Check.due("10: now(6)", Check.BEYOND, x.now(6));
    }
}
