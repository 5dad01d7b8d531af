/** Promises 1 to 4: a new object, height, spring, cell. */
public final class GroundTest {
    public static void main(String[] args) {
        aNewObject();
        height();
        spring();
        cell();
        Check.end();
    }

    private static void aNewObject() {
        GroundTents x = new GroundTents();
        for (int c = 0; c < 25; c++) {
            Check.due("1: height of cell " + c, 50, x.cell(c, 0));
            Check.due("1: spring of cell " + c, 0, x.cell(c, 1));
            Check.due("1: tents on cell " + c, 0, x.cell(c, 2));
        }
        int[] counts = {0, 0, 0, 0, 1250, 0, 1, 0};
        for (int what = 0; what < 8; what++) {
            Check.due("1: count(" + what + ")", counts[what], x.count(what));
        }
        for (int which = -1; which < 7; which++) {
            Check.due("1: status(" + which + ")", 0, x.status(which));
        }
        for (int s = 0; s < 4; s++) {
            Check.due("1: sheet " + s + " is missing", Check.MISSING, x.load(s));
        }
        for (int spot = 0; spot < 10; spot++) {
            Check.due("1: spot " + spot + " holds nothing", Check.MISSING, x.as(spot, 0));
        }
        Check.due("1: no tent", Check.BEYOND, x.of(0, 0));
        Check.due("1: no image", Check.NONE, x.undo());
        Check.due("1: no image to tear", 0, x.tear());
        Check.due("1: the tape is empty", 0, x.wipe());
        Check.due("1: objects share nothing", 50, new GroundTents().height(0, 1));
        Check.due("1: objects share nothing, again", 50, x.cell(0, 0));
    }

    private static void height() {
        GroundTents x = new GroundTents();
        Check.due("2: height(24, 0)", 50, x.height(24, 0));
        Check.due("2: height(24, 99)", 0, x.height(24, 99));
        Check.due("2: height(24, 99) again", 99, x.height(24, 99));
        Check.due("2: only that cell", 50, x.cell(23, 0));
        Check.due("2: height(-1, 5)", Check.BEYOND, x.height(-1, 5));
        Check.due("2: height(25, 5)", Check.BEYOND, x.height(25, 5));
        Check.due("2: height(24, -1)", Check.BEYOND, x.height(24, -1));
        Check.due("2: height(24, 100)", Check.BEYOND, x.height(24, 100));
        Check.due("2: height(min, min)", Check.BEYOND, x.height(Integer.MIN_VALUE, Integer.MIN_VALUE));
        Check.due("2: a finding changes nothing", 99, x.cell(24, 0));
    }

    private static void spring() {
        GroundTents x = new GroundTents();
        Check.due("3: spring(24, 1)", 0, x.spring(24, 1));
        Check.due("3: spring(24, 1) again", 1, x.spring(24, 1));
        Check.due("3: spring(3, 1)", 0, x.spring(3, 1));
        Check.due("3: spring(24, 0)", 1, x.spring(24, 0));
        Check.due("3: spring(24, 0) again", 0, x.spring(24, 0));
        Check.due("3: the other stays", 8, x.now(2));
        Check.due("3: spring(-1, 1)", Check.BEYOND, x.spring(-1, 1));
        Check.due("3: spring(25, 1)", Check.BEYOND, x.spring(25, 1));
        Check.due("3: spring(3, 2)", Check.BEYOND, x.spring(3, 2));
        Check.due("3: spring(3, -1)", Check.BEYOND, x.spring(3, -1));
        Check.due("3: a finding changes nothing", 8, x.now(2));
    }

    private static void cell() {
        GroundTents x = Check.camp("tent on 0;soft;stiff on 15;old on 5;spring 6");
        Check.due("4: cell(6, 0)", 50, x.cell(6, 0));
        Check.due("4: cell(6, 1)", 1, x.cell(6, 1));
        Check.due("4: cell(0, 2)", 1, x.cell(0, 2));
        Check.due("4: cell(6, 2)", 9, x.cell(6, 2));
        Check.due("4: cell(12, 2)", 8, x.cell(12, 2));
        Check.due("4: cell(24, 2)", 4, x.cell(24, 2));
        Check.due("4: cell(18, 2)", 4, x.cell(18, 2));
        Check.due("4: cell(4, 2)", 0, x.cell(4, 2));
        x.height(5, 20);
        x.height(4, 99);
        Check.due("4: no row's end is beside the next row's begin", 30, x.cell(5, 3));
        Check.due("4: cell(4, 3)", 49, x.cell(4, 3));
        Check.due("4: cell(0, 3), below it", 30, x.cell(0, 3));
        Check.due("4: cell(6, 3), left of it", 30, x.cell(6, 3));
        Check.due("4: cell(10, 3), above it", 30, x.cell(10, 3));
        Check.due("4: cell(3, 3), right of it", 49, x.cell(3, 3));
        Check.due("4: no slanting neighbours", 0, x.cell(11, 3));
        Check.due("4: cell(-1, 0)", Check.BEYOND, x.cell(-1, 0));
        Check.due("4: cell(25, 3)", Check.BEYOND, x.cell(25, 3));
        Check.due("4: cell(0, -1)", Check.BEYOND, x.cell(0, -1));
        Check.due("4: cell(0, 4)", Check.BEYOND, x.cell(0, 4));
    }
}
