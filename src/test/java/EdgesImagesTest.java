import java.util.function.Supplier;

/** The edges that the document names: images, counts and status; promises 41 to 45. */
public final class EdgesImagesTest {
    public static void main(String[] args) {
        nothingKept();
        allButTapeAndSheets();
        latest();
        tornOnes();
        count();
        status();
        Check.end();
    }

    private static void nothingKept() {
        Edge.run("42: NONE: nothing is kept", "undo() = NONE", "go(3) = 1250", "undo() = NONE", "now(0) = 3", "status(3) = 2",
            "image() = 1", "undo() = 3", "status(3) = 2");
        Edge.run("43: 1 if something was, else 0", "tear() = 0", "image() = 1", "tear() = 1", "tear() = 0", "undo() = NONE",
            "status(-1) = 1");
    }

    /** A camp is changed in all that it has and comes back; a sheet and the tape stay as they were made then. */
    private static void allButTapeAndSheets() {
        String[] changes = {"height(0, 1)", "spring(5, 1)", "spring(24, 0)", "change(0, 0, 6)", "change(0, 1, 9)",
            "change(4, 1, 3)", "change(1, 2, 77)", "change(5, 4, 1)", "beat(2)", "go(7)", "nomads(3)", "seed(99)", "hold(0, 3)",
            "hold(9, -1)", "hold(4, 0)", "undo()"};
        Supplier<GroundTents> kept = () -> {
            GroundTents x = Camps.full();
            x.image();
            return x;
        };
        for (String change : changes) {
            Edge.alike("42: it becomes what was kept, behind " + change, kept, () -> {
                GroundTents x = kept.get();
                Edge.tell(x, change);
                x.undo();
                return x;
            });
        }
        Edge.run("41: THE TAPE is not kept", "feed(0x6F6C, 2) = 2", "image() = 1", "feed(0x64, 1) = 3", "undo() = 0",
            "count(5) = 3", "text() = 1", "count(1) = 1", "undo() = 0", "count(1) = 0", "count(5) = 0");
        Edge.run("41: THE TAPE is not kept, wiped", "feed(0x6F6C, 2) = 2", "image() = 1", "wipe() = 2", "undo() = 0",
            "count(5) = 0");
        Edge.run("41: SHEETS are not kept", "fill(0, 8, 1) = 1", "image() = 1", "write(0, 0, 2) = 1", "fill(1, 16, 3, 4) = 2",
            "undo() = 0", "load(1) = 2", "cell(1, 0) = 4", "load(0) = 1", "cell(0, 0) = 2", "sheet(0, 0, 0) = 0", "undo() = 0",
            "load(0) = MISSING", "cell(0, 0) = 50");
        Edge.run("41: no TENTS are kept, too", "image() = 1", "read(old on 5 worn 6 felt 1 2 3 4;laced on 7 worn 8) = 2",
            "hold(0, 1) = 1", "undo() = 0", "count(1) = 0", "count(7) = 0", "as(0, 0) = MISSING", "of(0, 0) = BEYOND",
            "tent(2) = 0", "of(0, 0) = 2", "of(0, 1) = -1", "of(0, 2) = 0", "of(0, 4) = -1", "of(0, 7) = -1", "read(soft) = 1",
            "of(1, 0) = 2", "of(1, 1) = -1", "of(1, 2) = 0");
        Edge.run("41: six TENTS are kept", "read(old;old;old;old;old;laced on 15 felt 9 9 9 9) = 6", "image() = 1",
            "beat(5) = 4", "change(5, 1, -1) = 15", "undo() = 0", "of(5, 1) = 15", "of(5, 7) = 9", "tent(0) = FULL");
    }

    private static void latest() {
        Edge.run("42: what was kept latest", "go(1) = 1250", "image() = 1", "go(1) = 1250", "image() = 1", "go(1) = 1250",
            "undo() = 2", "now(0) = 2", "undo() = 2");
        Edge.run("42: (which stays)", "image() = 1", "height(0, 1) = 50", "undo() = 0", "cell(0, 0) = 50", "height(0, 2) = 50",
            "undo() = 0", "cell(0, 0) = 50", "tear() = 1", "undo() = NONE");
        Edge.run("42: what is changed behind undo() isn't kept", "read(old felt 1 2 3 4) = 1", "image() = 1", "undo() = 0",
            "change(0, 4, 9) = 1", "spring(3, 1) = 0", "undo() = 0", "of(0, 4) = 1", "now(2) = 0");
        Edge.run("42: DAY", "image() = 1", "go(60) = 1250", "undo() = 0", "go(60) = 1250", "go(60) = 1250", "image() = 1",
            "undo() = 120");
    }

    private static void tornOnes() {
        Edge.run("43: nothing is kept, not what was kept ahead of it either", "image() = 1", "go(1) = 1250", "image() = 1",
            "tear() = 1", "tear() = 0", "undo() = NONE", "now(0) = 1", "status(3) = 1");
        Edge.run("43: kept anew", "image() = 1", "go(2) = 1250", "tear() = 1", "image() = 1", "go(2) = 1250", "undo() = 2");
        Edge.run("43: nothing else changes", "read(old on 5) = 1", "image() = 1", "go(1) = 1250", "tear() = 1", "now(0) = 1",
            "of(0, 1) = 5", "count(1) = 1");
    }

    private static void count() {
        Edge.run("44: nothing there", "count(0) = 0", "count(1) = 0", "count(2) = 0", "count(3) = 0", "count(4) = 1250",
            "count(5) = 0", "count(6) = 1", "count(7) = 0", "count(8) = BEYOND", "count(-1) = BEYOND", "status(0) = 2");
        Edge.run("44: all full", Camps.brimming(), "count(1) = 6", "count(2) = 0", "count(5) = 120", "change(0, 1, 15) = -1",
            "change(5, 1, 0) = -1", "count(2) = 2", "change(5, 2, 99) = 0", "change(0, 2, 1) = 0", "count(3) = 100");
        Edge.run("44: z may be any int, and is no finding", "seed(MIN) = 1", "count(6) = MIN", "seed(-1000006) = MIN",
            "count(6) = -1000006", "status(-1) = 0");
        Edge.run("44: as now tells", "read(old on 5 worn 7;laced worn 9;height 3 0) = 3", "go(1) = 1200", "count(0) = 1",
            "now(0) = 1", "count(3) = 21", "now(4) = 21", "count(4) = 1200", "now(1) = 1200");
    }

    private static void status() {
        Edge.run("45: which -1 to 6", "status(-1) = 0", "status(0) = 0", "status(6) = 0", "status(7) = BEYOND",
            "status(-2) = BEYOND", "status(-1) = 2");
        Edge.run("45: BEYOND (counted from then on)", "status(7) = BEYOND", "status(0) = 1", "status(-1) = 1",
            "status(-2) = BEYOND", "status(0) = 2", "status(-1) = 2", "status(MAX) = BEYOND", "status(MIN) = BEYOND",
            "status(0) = 4");
        Edge.run("45: each finding on its own", "status(0) = 0", "height(25, 0) = BEYOND", "status(0) = 1",
            "read(old;old;old;old;old;old) = 6", "tent(0) = FULL", "status(1) = 1", "hold(0, 0) = 1", "as(0, 1) = KIND",
            "status(2) = 1", "undo() = NONE", "status(3) = 1", "lies(0, 0) = STATE", "status(4) = 1", "load(0) = MISSING",
            "status(5) = 1", "sheet(0, 8, -1) = SIZE", "status(6) = 1", "status(-1) = 7", "status(0) = 1");
        Edge.run("45: undo() takes none back", "image() = 1", "height(25, 0) = BEYOND", "load(0) = MISSING", "undo() = 0",
            "status(-1) = 2", "status(0) = 1", "status(5) = 1");
        Edge.run("45: ever: those ahead of an image, too", "height(25, 0) = BEYOND", "image() = 1", "undo() = 0",
            "status(0) = 1", "tear() = 1", "status(-1) = 1");
        Edge.run("45: a long's finding counts, too", "odds(16, 0) = BEYOND", "odds(0, 2) = BEYOND", "status(0) = 2");
        Edge.run("45: a FAULT is no finding", "text() = -1", "read(x) = -1", "status(-1) = 0");
        GroundTents x = new GroundTents();
        for (int i = 0; i < 500; i++) {
            x.go(0);
        }
        Edge.run("45: as many as there are calls", x, "status(0) = 500", "status(-1) = 500");
    }
}
