import java.util.stream.LongStream;

/**
 * All of an object that calls can see, but for status(). Some of it is seen only by changing it (the tape by
 * reading it, sheets by loading them), so each part is asked of an object of its own.
 */
final class Whole {
    static final int PARTS = 7;

    private Whole() {
    }

    static long[] part(GroundTents x, int part) {
        switch (part) {
            case 0: return camp(x);
            case 1: return image(x);
            case 2: return tape(x);
            default: return sheet(x, part - 3);
        }
    }

    private static long[] camp(GroundTents x) {
        LongStream.Builder all = LongStream.builder();
        for (int c = 0; c < 25; c++) {
            all.add(x.cell(c, 0)).add(x.cell(c, 1)).add(x.cell(c, 2));
        }
        for (int what = 0; what < 8; what++) {
            all.add(x.count(what));
        }
        for (int t = 0; t < x.count(1); t++) {
            for (int what = 0; what < 8; what++) {
                all.add(x.of(t, what));
            }
        }
        for (int spot = 0; spot < 10; spot++) {
            all.add(x.as(spot, 0));
        }
        return all.build().toArray();
    }

    private static long[] image(GroundTents x) {
        long day = x.undo();
        return LongStream.concat(LongStream.of(day, x.tear()), LongStream.of(camp(x))).toArray();
    }

    /** A 7 behind it, so that the tape's end is seen, too: "height 3 1" tells 17 then. */
    private static long[] tape(GroundTents x) {
        long fed = x.feed('7', 1);
        return LongStream.concat(LongStream.of(fed, x.text()), LongStream.of(camp(x))).toArray();
    }

    private static long[] sheet(GroundTents x, int s) {
        LongStream.Builder all = LongStream.builder();
        int size = 0;
        while (size < 50 && x.copy(s, 0, s, 0, size + 1) == size + 1) {
            size++;
        }
        all.add(x.load(s)).add(size);
        for (int i = 0; i < size; i++) {
            x.copy(s, i, s, 0, 1);
            all.add(x.load(s)).add(x.cell(0, 0));
        }
        // these are 7 in 8 bits, and in 8 and 16 bits
        int[] wide = {256 + 7, 65536 + 7};
        for (int v : wide) {
            all.add(x.write(s, 0, v)).add(x.load(s)).add(x.cell(0, 0));
        }
        return all.build().toArray();
    }
}
