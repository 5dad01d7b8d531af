/** Counts the answers that are not as due, tells them, and ends a test. */
final class Check {
    static final int BEYOND = -1000001;
    static final int FULL = -1000002;
    static final int KIND = -1000003;
    static final int NONE = -1000004;
    static final int STATE = -1000005;
    static final int MISSING = -1000006;
    static final int SIZE = -1000007;

    private static final long PATIENCE = 300_000;

    private static int wrong = 0;

    static {
        Thread watch = new Thread(Check::endAtLast);
        watch.setDaemon(true);
        watch.start();
    }

    private Check() {
    }

    /** A call that doesn't end must not keep the tests from failing. */
    private static void endAtLast() {
        try {
            Thread.sleep(PATIENCE);
        } catch (InterruptedException e) {
            return;
        }
        System.out.println("a call doesn't end");
        Runtime.getRuntime().halt(1);
    }

    static void due(String what, long want, long got) {
        if (got != want) {
            wrong++;
            System.out.println(what + " answered " + got + ", due is " + want);
        }
    }

    static void end() {
        if (wrong != 0) {
            System.out.println(wrong + " answers are not as due");
            System.exit(1);
        }
    }

    /** Puts a text behind what the tape has, byte by byte. */
    static void feed(GroundTents x, String text) {
        for (int i = 0; i < text.length(); i++) {
            x.feed(text.charAt(i), 1);
        }
    }

    static int read(GroundTents x, String text) {
        feed(x, text);
        return x.text();
    }

    /** An object on which a text has been read. */
    static GroundTents camp(String text) {
        GroundTents x = new GroundTents();
        if (read(x, text) < 0) {
            due("the text of a test, " + text, 1, 0);
        }
        return x;
    }

    /** Makes a sheet of told numbers. */
    static void sheet(GroundTents x, int s, int bits, int... numbers) {
        x.sheet(s, bits, numbers.length);
        for (int i = 0; i < numbers.length; i++) {
            x.write(s, i, numbers[i]);
        }
    }

    /** All heights become told ones, row by row. */
    static void ground(GroundTents x, int... heights) {
        for (int c = 0; c < heights.length; c++) {
            x.height(c, heights[c]);
        }
    }

    static void feltOf(String what, GroundTents x, int tent, int... want) {
        for (int i = 0; i < 4; i++) {
            due(what + ", felt " + i, want[i], x.of(tent, 4 + i));
        }
    }
}
