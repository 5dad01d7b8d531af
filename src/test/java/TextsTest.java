/** Promises 31 to 33: feed, wipe, text. */
public final class TextsTest {
    public static void main(String[] args) {
        feed();
        wipe();
        goodTexts();
        faults();
        nothingChanges();
        Check.end();
    }

    private static void feed() {
        GroundTents x = new GroundTents();
        Check.due("31: two bytes", 2, x.feed(0x7a7a6472, 2));
        Check.due("31: one byte", 3, x.feed(0x7a7a7a79, 1));
        Check.due("31: none", Check.BEYOND, x.feed(0, 0));
        Check.due("31: five", Check.BEYOND, x.feed(0, 5));
        Check.due("31: below 0", Check.BEYOND, x.feed(0, -1));
        Check.due("31: three", 6, x.feed(0x7a203132, 3));
        Check.due("31: read in that order", 1, x.text());
        for (int i = 1; i <= 29; i++) {
            Check.due("31: four bytes", 4 * i, x.feed(0x20202020, 4));
        }
        Check.due("31: 119", 119, x.feed(0, 3));
        Check.due("31: two are too many", Check.FULL, x.feed(0, 2));
        Check.due("31: BEYOND is asked ahead of FULL", Check.BEYOND, x.feed(0, 5));
        Check.due("31: one more", 120, x.feed(0, 1));
        Check.due("31: full", Check.FULL, x.feed(0, 1));
        Check.due("31: no more than that", 120, x.count(5));
    }

    private static void wipe() {
        GroundTents x = new GroundTents();
        Check.due("32: nothing", 0, x.wipe());
        x.feed(0, 3);
        Check.due("32: three", 3, x.wipe());
        Check.due("32: nothing any more", 0, x.count(5));
        Check.due("32: what was wiped isn't read", 1, Check.read(x, "dry 3"));
    }

    private static void goodTexts() {
        GroundTents x = new GroundTents();
        Check.due("33: all kinds of items", 7,
            Check.read(x, "tent;stiff on 15;soft worn 99; patched felt 0 9 99 007 ;height 24 0;spring 24;dry 0"));
        Check.due("33: the tape is empty then", 0, x.count(5));
        int[][] want = {{0, -1, 0, 1, -1, -1, -1, -1}, {1, 15, 0, 2, -1, -1, -1, -1}, {2, -1, 99, 1, -1, -1, -1, -1},
            {3, -1, 0, 1, 0, 9, 99, 7}};
        for (int t = 0; t < 4; t++) {
            for (int what = 0; what < 8; what++) {
                Check.due("33: of(" + t + ", " + what + ")", want[t][what], x.of(t, what));
            }
        }
        Check.due("33: height 24 0", 0, x.cell(24, 0));
        Check.due("33: spring 24", 1 << 24, x.now(2));
        Check.due("33: without blanks where none are needed", 3,
            Check.read(x, "chiefs on0worn000felt1 2 3 0000000004;old;dry24"));
        Check.due("33: chiefs", 4, x.of(4, 0));
        Check.due("33: on0", 0, x.of(4, 1));
        Check.feltOf("33: felt1 2 3 4", x, 4, 1, 2, 3, 4);
        Check.due("33: old", 5, x.of(5, 0));
        Check.due("33: dry24", 0, x.now(2));
        Check.due("33: item by item", 4, Check.read(x, "  height 3 4;spring 3;dry 3;height 3 5  "));
        Check.due("33: the later item counts", 5, x.cell(3, 0));
        Check.due("33: dry behind spring", 0, x.cell(3, 1));
        x = Check.camp("laced on 3 worn 2 felt 1 2 3 4");
        Check.due("33: laced", 6, x.of(0, 0));
        Check.due("33: laced is worn", 2, x.of(0, 2));
    }

    private static void faults() {
        fault("", 0);
        fault("   ", 3);
        fault(";", 0);
        fault("tent;", 5);
        fault("tent; ", 6);
        fault("tent;;tent", 5);
        fault("tent tent", 5);
        fault("tenton 5", 0);
        fault("tent on", 7);
        fault("tent on ", 8);
        fault("tent on;", 7);
        fault("tent on worn", 8);
        fault("tent on 16", 8);
        fault("tent on 1000", 8);
        fault("tent on 4294967296", 8);
        fault("tent on 99999999999999999999999999999999", 8);
        fault("tent on 5 6", 10);
        fault("tent on 5 on 6", 10);
        fault("tent worn 100", 10);
        fault("tent worn 5 worn 5", 12);
        fault("tent worn 5 on 5", 12);
        fault("tent felt 1 2 3", 15);
        fault("tent felt 1 2 3;", 15);
        fault("tent felt 1 2 100 4", 14);
        fault("tent felt 1 2 3 4 5", 18);
        fault("tent felt 1 2 3 4 worn 5", 18);
        fault("tent 5", 5);
        fault("Tent", 0);
        fault("cry 5", 0);
        fault("tend", 0);
        fault("tentz", 0);
        fault("tenta", 0);
        fault("tent`", 4);
        fault("tent{", 4);
        fault("tent on 1/", 9);
        fault("tent on 1:", 9);
        fault("ten", 0);
        fault("tent an 5", 5);
        fault("tent born 5", 5);
        fault("tent melt 1 2 3 4", 5);
        fault("tenT", 0);
        fault("tent.", 4);
        fault("tent\t", 4);
        fault("tent on -5", 8);
        fault("height", 6);
        fault("height 25 5", 7);
        fault("height 24 100", 10);
        fault("height 24", 9);
        fault("height 24 5 6", 12);
        fault("spring", 6);
        fault("spring 25", 7);
        fault("spring 5 on 5", 9);
        fault("dry x", 4);
        fault("dry 25", 4);
        fault("dry 2;springs 3", 6);
        fault("5", 0);
        fault("on 5", 0);
        fault("old;old;old;old;old;old;old on 99", 24);
        fault("tent" + (char) 0, 4);
        fault("tent" + (char) 200, 4);
    }

    private static void fault(String text, int place) {
        GroundTents x = new GroundTents();
        Check.due("33: the text '" + text + "'", -1 - place, Check.read(x, text));
        Check.due("33: the tape is empty behind '" + text + "'", 0, x.count(5));
        Check.due("33: no finding with '" + text + "'", 0, x.status(-1));
    }

    private static void nothingChanges() {
        GroundTents x = Check.camp("old;old;spring 7");
        Check.due("33: a fault at the end", -37, Check.read(x, "soft on 3;height 3 9;dry 7;spring 8;oldie"));
        Check.due("33: no tent is new", 2, x.count(1));
        Check.due("33: no height changes", 50, x.cell(3, 0));
        Check.due("33: no spring changes", 1 << 7, x.now(2));
        Check.due("33: the 7th counts those that are there", -17, Check.read(x, "old;old;old;old;old;"));
        Check.due("33: a fault ahead of the 7th", -20, Check.read(x, "old;old;old;old;dry;old"));
        Check.due("33: six in all", 4, Check.read(x, "old;old;old;old"));
        Check.due("33: the 7th", -7, Check.read(x, "dry 4;old"));
        Check.due("33: all else may be told then", 1, Check.read(x, "dry 4"));
    }
}
