/** The edges that the document names: what will be; promises 15 to 19. */
public final class EdgesAheadTest {
    public static void main(String[] args) {
        ahead();
        felt();
        when();
        settles();
        lies();
        Check.end();
    }

    private static void ahead() {
        Edge.run("15: n 0 to 100, the least and the greatest", "read(stiff on 15 felt 1 2 3 4) = 1", "ahead(24, 0) = 50",
            "ahead(24, 1) = 4", "ahead(24, 100) = 4", "ahead(0, 100) = 50", "ahead(24, 101) = BEYOND", "ahead(24, -1) = BEYOND",
            "now(0) = 0", "cell(24, 0) = 50");
        Edge.run("15: the 100th DAY goes by, too", Camps.slowRise(), "ahead(0, 0) = 0", "ahead(0, 99) = 96",
            "ahead(0, 100) = 97", "go(60) = 2433", "ahead(0, 40) = 97", "go(40) = 2473", "cell(0, 0) = 97");
        Edge.run("15: no TENTS, the first and the last CELL", "ahead(0, 0) = 50", "ahead(0, 100) = 50", "ahead(24, 100) = 50",
            "height(24, 99) = 50", "ahead(24, 100) = 99");
    }

    private static void felt() {
        Edge.run("16: n 0 to 100, FELT 0 to 3", "read(soft on 15 felt 1 2 3 4;height 24 99) = 2", "felt(0, 0, 0) = 1",
            "felt(0, 3, 0) = 4", "felt(0, 0, 1) = 50", "felt(0, 3, 1) = 99", "felt(0, 3, 100) = 99", "felt(0, 3, 101) = BEYOND",
            "felt(0, 3, -1) = BEYOND", "felt(0, 4, 0) = BEYOND", "felt(0, -1, 0) = BEYOND", "felt(1, 0, 0) = BEYOND",
            "felt(-1, 0, 0) = BEYOND", "of(0, 4) = 1");
        Edge.run("16: it keeps nothing", "read(soft on 15;laced) = 2", "felt(0, 2, 0) = -1", "felt(0, 2, 1) = 50",
            "felt(1, 2, 0) = -1", "felt(1, 2, 100) = -1", "status(-1) = 0");
        Edge.run("16: the 100th DAY goes by, too: the chiefs' FELT there and then", Camps.slowRise(), "image() = 1",
            "go(60) = 2433", "go(39) = 2472", "of(1, 4) = 94", "go(1) = 2473", "of(1, 4) = 95", "undo() = 0",
            "felt(1, 0, 99) = 94", "felt(1, 0, 100) = 95");
    }

    private static void when() {
        Edge.run("17: at once is 0 DAYS", "when(0, 24, 0) = 0", "when(24, 24, 0) = 0", "when(0, 24, 99) = 0");
        Edge.run("17: the fewest", "read(stiff on 0 felt 50 50 50 50;height 0 90) = 2", "when(0, 24, 40) = 0",
            "when(0, 24, 39) = 1", "when(0, 24, 0) = 1");
        Edge.run("17: the fewest, though later there is none", "read(stiff on 0 felt 90 50 50 50) = 1", "when(0, 24, 0) = 0",
            "go(1) = 1290", "when(0, 24, 39) = NONE", "when(0, 24, 40) = 0", "status(3) = 1");
        Edge.run("17: 0 to 100 DAYS: 100 and 101", Camps.slowRise(), "when(0, 24, 3) = 99", "when(0, 24, 2) = 100",
            "when(0, 24, 1) = NONE", "when(24, 0, 2) = 100", "go(1) = 2376", "when(0, 24, 1) = 100");
        Edge.run("17: CLIMB 0 to 99", Camps.cliff(), "when(0, 24, 99) = 0", "when(0, 24, 98) = NONE",
            "when(0, 24, 100) = BEYOND", "when(0, 24, -1) = BEYOND", "when(0, 0, 0) = 0");
    }

    private static void settles() {
        Edge.run("18: no TENTS", "settles() = 0", "height(3, 99) = 50", "settles() = 0");
        Edge.run("18: none that is pitched", "read(laced felt 1 2 3 4) = 1", "settles() = 0");
        Edge.run("18: HEIGHTS alone count", "read(soft on 0 felt 1 2 3 4) = 1", "settles() = 0", "go(1) = 1250");
        Edge.run("18: the fewest, though a later DAY changes HEIGHTS", "read(laced on 0) = 1", "settles() = 0", "go(1) = 1250",
            "settles() = 1", "go(1) = 1254", "settles() = 0");
        Edge.run("18: one CELL is enough", "read(stiff on 15 felt 50 50 50 51) = 1", "settles() = 1", "go(1) = 1251",
            "settles() = 0");
        Edge.run("18: 0 to 100 DAYS: 100", Camps.slowLevel(-1, 2, 2), "settles() = 100");
        Edge.run("18: 0 to 100 DAYS: NONE at 101", Camps.slowLevel(-1, 0, 0), "settles() = NONE", "status(3) = 1", "now(0) = 0",
            "go(1) = 1201", "settles() = 100");
    }

    private static void lies() {
        Edge.run("19: d 0 to 99", "read(stiff on 0 felt 99 50 50 50;height 0 0) = 2", "lies(0, 99) = 0", "lies(0, 98) = 1",
            "lies(0, 0) = 1", "lies(0, 100) = BEYOND", "lies(0, -1) = BEYOND");
        Edge.run("19: by no more than d, above and below", "read(stiff on 0 felt 57 43 50 50) = 1", "lies(0, 7) = 0",
            "lies(0, 6) = 1", "change(0, 5, 42) = 43", "lies(0, 7) = 1", "lies(0, 8) = 0");
        Edge.run("19: no piece of FELT, the last one neither", "read(stiff on 15 felt 50 50 50 60) = 1", "lies(0, 9) = 1",
            "lies(0, 10) = 0");
        Edge.run("19: one that keeps nothing doesn't", "read(laced on 0) = 1", "lies(0, 0) = 0", "height(0, 0) = 50",
            "height(1, 99) = 50", "lies(0, 0) = 0");
        Edge.run("19: STATE: it is ROLLED UP", "read(laced;laced on 0) = 2", "lies(0, 99) = STATE", "lies(0, 0) = STATE",
            "lies(1, 0) = 0", "change(0, 1, 3) = -1", "lies(0, 0) = 0", "change(0, 1, -1) = 3", "lies(0, 0) = STATE",
            "status(4) = 3");
        Edge.run("19: 0 to 100 DAYS: 100", Camps.slowLevel(1, 4, 5), "lies(0, 0) = 100");
        Edge.run("19: 0 to 100 DAYS: NONE at 101", Camps.slowLevel(-1, 2, 2), "lies(0, 0) = NONE", "status(3) = 1",
            "go(1) = 1203", "lies(0, 0) = 100");
    }
}
