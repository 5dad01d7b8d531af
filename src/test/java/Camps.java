/** Camps that the edges are tried on. */
final class Camps {
    private static final int[] ROUGH = {
        3, 0, 50, 51, 99,
        20, 21, 47, 60, 98,
        33, 34, 35, 61, 97,
        90, 12, 50, 62, 96,
        91, 92, 93, 94, 0};

    private Camps() {
    }

    /** Nothing has happened yet. */
    static GroundTents fresh() {
        return new GroundTents();
    }

    /**
     * Something of all: six tents, of which 0 to 3 are pitched; springs; days; spots; sheet 0 of 8 bits and 40 numbers,
     * sheet 1 of 16 and 5, sheet 2 of 32 and none, sheet 3 missing; a tape of 10 bytes; an image of another day.
     */
    static GroundTents full() {
        GroundTents x = new GroundTents();
        Check.ground(x, ROUGH);
        int[] kinds = {0, 6, 5, 4, 3, 2};
        for (int t = 0; t < 6; t++) {
            x.tent(kinds[t]);
            x.change(t, 2, 10 * t);
            for (int i = 0; i < 4; i++) {
                x.change(t, 4 + i, 15 * t + i);
            }
        }
        x.beat(3);
        x.change(4, 5, -1);
        x.spring(0, 1);
        x.hold(0, 5);
        x.seed(12345);
        x.image();
        x.nomads(2);
        int[] pitches = {0, 5, 5, 15, -1, -1};
        for (int t = 0; t < 6; t++) {
            x.change(t, 1, pitches[t]);
        }
        x.go(3);
        x.spring(24, 1);
        x.spring(0, 0);
        x.hold(0, 1);
        x.hold(9, 4);
        sheets(x);
        Check.feed(x, "height 3 1");
        return x;
    }

    private static void sheets(GroundTents x) {
        x.sheet(0, 8, 40);
        for (int i = 0; i < 40; i++) {
            x.write(0, i, 2 * i);
        }
        Check.sheet(x, 1, 16, 5, 6, -1, 7, 100);
        x.sheet(2, 32, 0);
    }

    /**
     * Cell 0 is at 0 and all others are at 99, with a spring in the last; tent 0 is soft and rolled up, tents 1 and 2,
     * both stiff and on pitch 0, keep it so but for cell 6, on which they don't agree.
     */
    static GroundTents cliff() {
        GroundTents x = Check.camp("soft;stiff on 0 felt 0 99 99 97;stiff on 0 felt 0 99 99 99;spring 24;height 0 0");
        for (int c = 1; c < 25; c++) {
            x.height(c, 99);
        }
        return x;
    }

    /** Chiefs lift cell 0 and a tent holds that back, so that it rises for more than 100 days; tent 3 is rolled up. */
    static GroundTents restless() {
        GroundTents x = Check.camp("old on 0;chiefs on 0;tent on 0;laced felt 1 1 1 1;height 0 0");
        x.change(1, 4, 0);
        x.change(2, 4, 0);
        return x;
    }

    /** Chiefs lift cell 0 by 3 a day and a tent halves that (cut), so it rises from 0 by 1 a day, but on the first three. */
    static GroundTents slowRise() {
        GroundTents x = Check.camp("old on 0;chiefs on 0;tent on 0;height 0 0");
        for (int c = 1; c < 25; c++) {
            x.height(c, 99);
        }
        return x;
    }

    /** The same, with a soft tent that lies level only once nothing rises any more. */
    static GroundTents slowLevel(int old, int chiefs, int tent) {
        GroundTents x = Check.camp("soft on 0;old on 0;chiefs on 0;tent on 0;height 0 0");
        x.change(0, 4, 99);
        x.change(1, 4, old);
        x.change(2, 4, chiefs);
        x.change(3, 4, tent);
        return x;
    }

    /** Six tents rolled up, one of each kind but laced, and a full tape. */
    static GroundTents brimming() {
        GroundTents x = new GroundTents();
        for (int kind = 0; kind < 6; kind++) {
            x.tent(kind);
        }
        for (int i = 0; i < 30; i++) {
            x.feed(0x20202020, 4);
        }
        return x;
    }

    /** One day is left; more calls lead there than an object is used for, but the document's words hold there, too. */
    static GroundTents lastButOneDay() {
        GroundTents x = new GroundTents();
        x.tent(1);
        x.change(0, 1, 5);
        x.change(0, 4, 7);
        for (int i = 0; i < 1666; i++) {
            x.go(60);
        }
        x.go(38);
        x.height(6, 50);
        return x;
    }
}
