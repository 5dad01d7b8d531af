/** Promises 41 to 45: image, undo, tear, count, status. */
public final class ImagesTest {
    public static void main(String[] args) {
        imageAndUndo();
        latest();
        tear();
        count();
        status();
        Check.end();
    }

    private static void imageAndUndo() {
        GroundTents x = Check.camp("tent on 0 worn 7 felt 1 2 3 4;spring 3;height 4 9");
        x.hold(5, 0);
        x.seed(77);
        x.go(3);
        Check.sheet(x, 0, 8, 1);
        x.feed(0, 1);
        int[] heights = {x.cell(0, 0), x.cell(4, 0)};
        int[] traits = new int[8];
        for (int what = 0; what < 8; what++) {
            traits[what] = x.of(0, what);
        }
        Check.due("41: image()", 1, x.image());
        x.tent(1);
        x.hold(5, 1);
        x.hold(6, 1);
        x.spring(3, 0);
        x.height(4, 8);
        x.change(0, 0, 5);
        x.beat(0);
        x.nomads(4);
        x.write(0, 0, 2);
        x.feed(0, 1);
        Check.due("42: undo()", 3, x.undo());
        Check.due("42: tents", 1, x.count(1));
        Check.due("42: spots", 1, x.count(7));
        Check.due("42: what a spot holds", 0, x.as(5, 0));
        Check.due("42: springs", 8, x.now(2));
        Check.due("42: z", 77, x.count(6));
        Check.due("42: day", 3, x.now(0));
        Check.due("42: a height", heights[0], x.cell(0, 0));
        Check.due("42: another height", heights[1], x.cell(4, 0));
        for (int what = 0; what < 8; what++) {
            Check.due("42: of(0, " + what + ")", traits[what], x.of(0, what));
        }
        Check.due("42: the tape stays", 2, x.count(5));
        x.load(0);
        Check.due("42: sheets stay", 2, x.cell(0, 0));
        Check.due("42: it stays kept", 3, x.undo());
        Check.due("42: it is as it was, again", heights[0], x.cell(0, 0));
    }

    private static void latest() {
        GroundTents x = new GroundTents();
        x.image();
        x.go(1);
        x.image();
        x.go(1);
        Check.due("42: the latest", 1, x.undo());
        Check.due("42: the latest, again", 1, x.undo());
        x.tent(0);
        x.undo();
        Check.due("42: a tent made later is gone", 0, x.tent(4));
        Check.feltOf("42: a new one is new", x, 0, -1, -1, -1, -1);
    }

    private static void tear() {
        GroundTents x = new GroundTents();
        Check.due("42: nothing is kept", Check.NONE, x.undo());
        Check.due("43: nothing was", 0, x.tear());
        x.image();
        x.image();
        Check.due("43: something was", 1, x.tear());
        Check.due("43: nothing is any more", 0, x.tear());
        x.go(1);
        Check.due("43: undo() finds nothing", Check.NONE, x.undo());
        Check.due("43: and changes nothing", 1, x.now(0));
        x.image();
        Check.due("43: kept again", 1, x.undo());
    }

    private static void count() {
        GroundTents x = Check.camp("tent on 3 worn 9;old worn 20;soft on 3;height 0 0");
        x.hold(0, 2);
        x.hold(9, 2);
        x.feed(0, 4);
        x.seed(-1000003);
        x.go(2);
        int[] want = {2, 3, 2, 33, 1200, 4, -1000003, 2};
        for (int what = 0; what < 8; what++) {
            Check.due("44: count(" + what + ")", want[what], x.count(what));
        }
        Check.due("44: count(6) is no finding", 0, x.status(-1));
        Check.due("44: count(-1)", Check.BEYOND, x.count(-1));
        Check.due("44: count(8)", Check.BEYOND, x.count(8));
    }

    private static void status() {
        GroundTents x = new GroundTents();
        x.undo();
        x.image();
        x.tent(7);
        for (int i = 0; i < 9; i++) {
            x.tent(1);
        }
        x.hold(0, 0);
        x.as(0, 6);
        x.as(0, 2);
        x.lies(0, 0);
        x.as(1, 0);
        x.sheet(0, 0, -1);
        x.odds(99, 0);
        x.text();
        int[] want = {2, 3, 2, 1, 1, 1, 1};
        for (int which = 0; which < 7; which++) {
            Check.due("45: status(" + which + ")", want[which], x.status(which));
        }
        Check.due("45: status(-1)", 11, x.status(-1));
        Check.due("45: status(7)", Check.BEYOND, x.status(7));
        Check.due("45: counted from then on", 3, x.status(0));
        Check.due("45: status(-2)", Check.BEYOND, x.status(-2));
        Check.due("45: counted from then on, in all", 13, x.status(-1));
        x.undo();
        Check.due("45: undo() takes none back", 13, x.status(-1));
        Check.due("45: another object's are its own", 0, new GroundTents().status(-1));
    }
}
