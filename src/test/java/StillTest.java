/** Calls that only ask: nothing changes by them, not even for what is only supposed, and status() counts nothing. */
public final class StillTest {
    public static void main(String[] args) {
        Edge.still("4: cell", Camps::full, "cell(0, 0)", "cell(0, 1)", "cell(6, 2)", "cell(24, 3)");
        Edge.still("6: of", Camps::full, "of(0, 0)", "of(1, 1)", "of(2, 2)", "of(3, 3)", "of(4, 4)", "of(5, 5)", "of(0, 6)",
            "of(1, 7)");
        Edge.still("10: now", Camps::full, "now(0)", "now(1)", "now(2)", "now(3)", "now(4)", "now(5)");
        Edge.still("11 to 14: flocks", Camps::full, "way(0, 24, 99)", "way(5, 5, 0)", "climb(0, 24)", "climb(24, 4)",
            "reach(0, 0)", "reach(24, 99)", "drink(0, 99)", "drink(24, 0)");
        Edge.still("'what will be (nothing changes)': 15 to 19", Camps::full, "ahead(6, 0)", "ahead(6, 100)", "felt(1, 3, 0)",
            "felt(2, 0, 100)", "when(0, 0, 0)", "when(0, 24, 99)", "settles()", "lies(0, 99)", "lies(2, 40)");
        Edge.still("20 to 25: where to pitch, which first", Camps::full, "unlike(0, 0)", "unlike(5, 15)", "home(0)", "home(5)",
            "pitchFor(1, 0, 24, 99)", "pitchFor(4, 24, 24, 0)", "kindFor(0, 0)", "kindFor(1, 60)", "first(0, 1, 0)",
            "first(5, 0, 15)", "out(0, 0, 50, 99)", "out(5, 15, 50, 99)");
        Edge.still("26, 27: what was kept", Camps::full, "fits(0, 0)", "fits(1, 5)", "fits(2, 4)", "kinds(0, 0)", "kinds(1, 4)",
            "kinds(2, 5)");
        Edge.still("29: odds", Camps::full, "odds(0, 0)", "odds(15, 1)");
        Edge.still("35: as", Camps::full, "as(0, 6)", "as(9, 0)");
        Edge.still("40: judge", Camps::full, "judge(0, 0)", "judge(1, 99)", "judge(2, 50)");
        Edge.still("44: count", Camps::full, "count(0)", "count(1)", "count(2)", "count(3)", "count(4)", "count(5)", "count(6)",
            "count(7)");
        Edge.still("45: status", Camps::full, "status(-1)", "status(0)", "status(1)", "status(2)", "status(3)", "status(4)",
            "status(5)", "status(6)");
        Edge.still("what changes to what it is", Camps::full, "height(4, 99)", "spring(24, 1)", "change(0, 1, 0)",
            "change(4, 1, -1)", "hold(0, 1)", "hold(1, -1)", "sheet(2, 32, 0)", "sheet(3, 0, 40)", "write(0, 39, 78)",
            "copy(0, 0, 0, 0, 40)", "copy(0, 40, 0, 40, 0)", "copy(2, 0, 2, 0, 0)", "load(2)");
        Check.end();
    }
}
