/** Promises 5 to 8: tent, of, change, beat. */
public final class TentsTest {
    public static void main(String[] args) {
        tent();
        of();
        change();
        beat();
        Check.end();
    }

    private static void tent() {
        GroundTents x = new GroundTents();
        Check.due("5: tent(-1)", Check.BEYOND, x.tent(-1));
        Check.due("5: tent(7)", Check.BEYOND, x.tent(7));
        for (int t = 0; t < 6; t++) {
            Check.due("5: tent number " + t, t, x.tent(6 - t));
            Check.due("5: its kind", 6 - t, x.of(t, 0));
            Check.due("5: it is rolled up", -1, x.of(t, 1));
            Check.due("5: its worn", 0, x.of(t, 2));
            Check.feltOf("5: a new tent", x, t, -1, -1, -1, -1);
        }
        Check.due("5: a 7th", Check.FULL, x.tent(0));
        Check.due("5: BEYOND is asked ahead of FULL", Check.BEYOND, x.tent(7));
        Check.due("5: six stay", 6, x.count(1));
    }

    private static void of() {
        GroundTents x = Check.camp("patched on 7 worn 31 felt 1 22 33 99");
        int[] want = {3, 7, 31, 1, 1, 22, 33, 99};
        for (int what = 0; what < 8; what++) {
            Check.due("6: of(0, " + what + ")", want[what], x.of(0, what));
        }
        int[] wears = {1, 2, 1, 1, 0, 5, 4};
        for (int kind = 0; kind < 7; kind++) {
            x.change(0, 0, kind);
            Check.due("6: what kind " + kind + " wears", wears[kind], x.of(0, 3));
        }
        Check.due("6: of(-1, 0)", Check.BEYOND, x.of(-1, 0));
        Check.due("6: of(1, 0)", Check.BEYOND, x.of(1, 0));
        Check.due("6: of(0, -1)", Check.BEYOND, x.of(0, -1));
        Check.due("6: of(0, 8)", Check.BEYOND, x.of(0, 8));
    }

    private static void change() {
        GroundTents x = Check.camp("tent;tent");
        Check.due("7: kind", 0, x.change(1, 0, 6));
        Check.due("7: kind again", 6, x.change(1, 0, 3));
        Check.due("7: pitch", -1, x.change(1, 1, 15));
        Check.due("7: pitch again", 15, x.change(1, 1, -1));
        Check.due("7: worn", 0, x.change(1, 2, 99));
        Check.due("7: worn again", 99, x.change(1, 2, 7));
        for (int i = 4; i < 8; i++) {
            Check.due("7: felt", -1, x.change(1, i, 10 * i));
            Check.due("7: felt again", 10 * i, x.change(1, i, 99));
        }
        Check.due("7: felt to nothing", 99, x.change(1, 5, -1));
        Check.feltOf("7: all four", x, 1, 99, -1, 99, 99);
        Check.feltOf("7: of the other none", x, 0, -1, -1, -1, -1);
        int[][] wrong = {{-1, 0, 0}, {2, 0, 0}, {0, -1, 0}, {0, 8, 0}, {0, 3, 1}, {0, 0, -1}, {0, 0, 7}, {0, 1, -2},
            {0, 1, 16}, {0, 2, -1}, {0, 2, 100}, {0, 4, -2}, {0, 4, 100}, {0, 7, -2}, {0, 7, 100}};
        for (int[] w : wrong) {
            Check.due("7: change(" + w[0] + ", " + w[1] + ", " + w[2] + ")", Check.BEYOND, x.change(w[0], w[1], w[2]));
        }
        Check.due("7: a finding changes nothing", -1, x.of(0, 1));
    }

    private static void beat() {
        GroundTents x = Check.camp("tent felt 0 1 2 3;old felt 4 5 6 7");
        Check.due("8: beat(0)", 4, x.beat(0));
        Check.feltOf("8: nothing kept", x, 0, -1, -1, -1, -1);
        Check.feltOf("8: the other keeps", x, 1, 4, 5, 6, 7);
        Check.due("8: beat(0) again", 0, x.beat(0));
        x.change(0, 6, 0);
        Check.due("8: beat(0) of one piece", 1, x.beat(0));
        Check.due("8: beat(-1)", Check.BEYOND, x.beat(-1));
        Check.due("8: beat(2)", Check.BEYOND, x.beat(2));
    }
}
