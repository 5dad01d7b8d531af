/** Promises 34 and 35: hold, as. */
public final class SpotsTest {
    public static void main(String[] args) {
        hold();
        as();
        Check.end();
    }

    private static void hold() {
        GroundTents x = Check.camp("tent;soft");
        Check.due("34: hold(9, 1)", 1, x.hold(9, 1));
        Check.due("34: hold(0, 1)", 1, x.hold(0, 1));
        Check.due("34: two spots may hold one tent", 2, x.count(7));
        Check.due("34: it holds", 1, x.as(9, 0));
        Check.due("34: hold(9, 0)", 1, x.hold(9, 0));
        Check.due("34: it holds another one", 0, x.as(9, 0));
        Check.due("34: hold(9, -1)", 1, x.hold(9, -1));
        Check.due("34: it holds nothing", Check.MISSING, x.as(9, 0));
        Check.due("34: nothing again", 1, x.hold(9, -1));
        int[][] wrong = {{-1, 0}, {10, 0}, {0, -2}, {0, 2}, {10, -1}};
        for (int[] w : wrong) {
            Check.due("34: hold(" + w[0] + ", " + w[1] + ")", Check.BEYOND, x.hold(w[0], w[1]));
        }
        Check.due("34: a finding changes nothing", 1, x.as(0, 0));
        Check.due("34: one spot holds", 1, x.count(7));
    }

    private static void as() {
        // row: what a tent is of; column: what it is taken as
        String[] under = {"1000000", "1100000", "1010000", "1011000", "1011100", "1000010", "1100001"};
        for (int kind = 0; kind < 7; kind++) {
            GroundTents x = new GroundTents();
            x.tent(0);
            x.tent(kind);
            x.hold(3, 1);
            for (int as = 0; as < 7; as++) {
                int want = under[kind].charAt(as) == '1' ? 1 : Check.KIND;
                Check.due("35: kind " + kind + " as " + as, want, x.as(3, as));
            }
        }
        GroundTents x = Check.camp("soft");
        x.hold(0, 0);
        Check.due("35: as(-1, 0)", Check.BEYOND, x.as(-1, 0));
        Check.due("35: as(10, 0)", Check.BEYOND, x.as(10, 0));
        Check.due("35: as(0, -1)", Check.BEYOND, x.as(0, -1));
        Check.due("35: as(0, 7)", Check.BEYOND, x.as(0, 7));
        Check.due("35: BEYOND is asked ahead of MISSING", Check.BEYOND, x.as(1, 7));
        Check.due("35: MISSING", Check.MISSING, x.as(1, 6));
        x.change(0, 0, 1);
        Check.due("35: by its kind of now", Check.KIND, x.as(0, 2));
    }
}
