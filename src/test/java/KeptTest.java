/** Promises 26 and 27: fits, kinds. */
public final class KeptTest {
    public static void main(String[] args) {
        fits();
        kinds();
        wrongCalls();
        Check.end();
    }

    private static void fits() {
        GroundTents x = Check.camp("soft;laced on 0 felt 1 1 1 1;height 24 60;height 0 70");
        Check.sheet(x, 0, 8, 50, 50, 50, 50);
        Check.due("26: all but two", 0xffff & ~(1 | 1 << 15), x.fits(0, 0));
        Check.sheet(x, 1, 32, -1, -1, -1, 60);
        Check.due("26: any but the last", 1 << 15, x.fits(1, 0));
        Check.sheet(x, 1, 8, 70);
        Check.due("26: only the first is told", 1, x.fits(1, 0));
        Check.sheet(x, 1, 16);
        Check.due("26: nothing is told", 0xffff, x.fits(1, 0));
        Check.sheet(x, 1, 8, -1, 255, 50, 50, 7, 100);
        Check.due("26: -1 in 8 bits, and more than four", 0xffff & ~(1 << 15), x.fits(1, 0));
        Check.sheet(x, 1, 16, -1, 255, 50, 50);
        Check.due("26: 255 in 16 bits is no felt", 0, x.fits(1, 0));
        Check.sheet(x, 1, 32, 1, 1, 1, 1);
        Check.due("26: laced keeps its own everywhere", 0xffff, x.fits(1, 1));
        Check.due("26: nothing changes", 0, x.of(1, 1));
        Check.due("26: no felt changes", -1, x.of(0, 4));
        Check.due("26: no day", 0, x.now(0));
        x = Check.camp("stiff on 5 felt 1 1 1 1;soft on 6;height 7 20");
        Check.sheet(x, 0, 8, 20, 50, 50, 50);
        Check.due("26: others are rolled up", 1 << 6, x.fits(0, 1));
    }

    private static void kinds() {
        GroundTents x = Check.camp("tent on 0 worn 49 felt 71 40 9 50;height 0 40;height 1 40;height 5 40;height 6 40");
        // tent, patched: 55 40 24 45; stiff, old, laced: as it is; soft: 40; chiefs: 56 41 25 46
        Check.sheet(x, 0, 8, 55, 40, 24, 45);
        Check.due("27: as a tent", 1 | 1 << 3, x.kinds(0, 0));
        Check.sheet(x, 0, 8, 71, 40, 9, 50);
        Check.due("27: as it is", 1 << 1 | 1 << 5 | 1 << 6, x.kinds(0, 0));
        Check.sheet(x, 0, 8, -1, 40);
        Check.due("27: any first one", 127 & ~(1 << 4), x.kinds(0, 0));
        Check.sheet(x, 0, 8, 56, 41, 25, 46, 99);
        Check.due("27: chiefs", 1 << 4, x.kinds(0, 0));
        Check.sheet(x, 0, 8, 40, 40, 40, 40);
        Check.due("27: soft", 1 << 2, x.kinds(0, 0));
        x.change(0, 2, 50);
        Check.due("27: soft, and old that is worn", 1 << 2 | 1 << 5, x.kinds(0, 0));
        Check.sheet(x, 0, 8, 1);
        Check.due("27: none", 0, x.kinds(0, 0));
        Check.sheet(x, 0, 8);
        Check.due("27: nothing is told", 127, x.kinds(0, 0));
        Check.due("27: nothing changes", 0, x.of(0, 0));
        x.change(0, 1, -1);
        x.change(0, 4, -1);
        Check.sheet(x, 0, 8, -1, 40, 9, 50);
        Check.due("27: rolled up, it stays", 127, x.kinds(0, 0));
        x = Check.camp("stiff on 0 felt 1 1 1 1;soft on 0");
        Check.sheet(x, 0, 8, 1, 1, 1, 1);
        Check.due("27: all else as it is, others press, too", 127, x.kinds(0, 1));
    }

    private static void wrongCalls() {
        GroundTents x = Check.camp("tent");
        x.sheet(2, 8, 4);
        int[][] calls = {{-1, 0, Check.BEYOND}, {4, 0, Check.BEYOND}, {4, 9, Check.BEYOND}, {0, 0, Check.MISSING},
            {0, 9, Check.MISSING}, {2, 1, Check.BEYOND}, {2, -1, Check.BEYOND}};
        for (int[] c : calls) {
            Check.due("26: fits(" + c[0] + ", " + c[1] + ")", c[2], x.fits(c[0], c[1]));
            Check.due("27: kinds(" + c[0] + ", " + c[1] + ")", c[2], x.kinds(c[0], c[1]));
        }
    }
}
