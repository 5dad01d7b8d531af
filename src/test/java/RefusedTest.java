import java.util.function.Supplier;

/**
 * Every promise's refused calls: which finding, which of two that would both do, that status() counts it
 * and that nothing else changes (promise 45 and 'FINDINGS' of the terms).
 */
public final class RefusedTest {
    private static final Supplier<GroundTents> FRESH = Camps::fresh;
    private static final Supplier<GroundTents> FULL = Camps::full;
    private static final Supplier<GroundTents> CLIFF = Camps::cliff;
    private static final Supplier<GroundTents> BRIMMING = Camps::brimming;
    private static final Supplier<GroundTents> LAST = Camps::lastButOneDay;

    public static void main(String[] args) {
        ground();
        tents();
        noTents();
        days();
        flocks();
        whatWillBe();
        whereToPitch();
        whatWasKept();
        nomads();
        texts();
        spots();
        sheets();
        copies();
        images();
        Check.end();
    }

    private static void ground() {
        Edge.refused("2: height, BEYOND: no such CELL", FULL, "BEYOND", "height(-1, 5)", "height(25, 5)", "height(MIN, 5)",
            "height(MAX, 5)");
        Edge.refused("2: height, BEYOND: not 0 to 99", FULL, "BEYOND", "height(0, -1)", "height(0, 100)", "height(24, -1)",
            "height(24, 100)", "height(0, MIN)", "height(0, MAX)");
        Edge.refused("3: spring, BEYOND: no such CELL", FULL, "BEYOND", "spring(-1, 1)", "spring(25, 1)", "spring(-1, 0)",
            "spring(25, 0)", "spring(32, 1)", "spring(MIN, 1)", "spring(MAX, 1)");
        Edge.refused("3: spring, BEYOND: neither 1 nor 0", FULL, "BEYOND", "spring(0, -1)", "spring(0, 2)", "spring(24, -1)",
            "spring(24, 2)", "spring(24, MIN)", "spring(24, MAX)");
        Edge.refused("4: cell, BEYOND: no such CELL", FULL, "BEYOND", "cell(-1, 0)", "cell(25, 0)", "cell(-1, 1)",
            "cell(25, 1)", "cell(-1, 2)", "cell(25, 2)", "cell(-1, 3)", "cell(25, 3)", "cell(MIN, 0)", "cell(MAX, 0)");
        Edge.refused("4: cell, BEYOND: another what", FULL, "BEYOND", "cell(0, -1)", "cell(0, 4)", "cell(24, -1)",
            "cell(24, 4)", "cell(0, MIN)", "cell(0, MAX)");
    }

    private static void tents() {
        Edge.refused("5: tent, BEYOND: no such KIND", FRESH, "BEYOND", "tent(-1)", "tent(7)", "tent(MIN)", "tent(MAX)");
        Edge.refused("5: tent, FULL: a 7th", FULL, "FULL", "tent(0)", "tent(1)", "tent(2)", "tent(3)", "tent(4)", "tent(5)",
            "tent(6)");
        Edge.refused("5: tent, BEYOND is asked ahead of FULL", FULL, "BEYOND", "tent(-1)", "tent(7)", "tent(MIN)", "tent(MAX)");
        Edge.refused("6: of, BEYOND: no such TENT", FULL, "BEYOND", "of(-1, 0)", "of(6, 0)", "of(6, 4)", "of(MIN, 0)",
            "of(MAX, 0)");
        Edge.refused("6: of, BEYOND: another what", FULL, "BEYOND", "of(0, -1)", "of(0, 8)", "of(5, MIN)", "of(5, MAX)");
        Edge.refused("7: change, BEYOND: no such TENT", FULL, "BEYOND", "change(-1, 0, 1)", "change(6, 0, 1)",
            "change(6, 1, -1)", "change(MIN, 1, 0)", "change(MAX, 1, 0)");
        Edge.refused("7: change, BEYOND: another what", FULL, "BEYOND", "change(0, -1, 0)", "change(0, 3, 1)",
            "change(0, 3, 0)", "change(0, 8, 0)", "change(0, MIN, 0)", "change(0, MAX, 0)");
        Edge.refused("7: change, BEYOND: no such KIND", FULL, "BEYOND", "change(0, 0, -1)", "change(0, 0, 7)",
            "change(0, 0, MIN)", "change(0, 0, MAX)");
        Edge.refused("7: change, BEYOND: no such PITCH, nor -1", FULL, "BEYOND", "change(0, 1, -2)", "change(0, 1, 16)",
            "change(0, 1, MIN)", "change(0, 1, MAX)");
        Edge.refused("7: change, BEYOND: WORN isn't 0 to 99", FULL, "BEYOND", "change(0, 2, -1)", "change(0, 2, 100)",
            "change(0, 2, MIN)", "change(0, 2, MAX)");
        Edge.refused("7: change, BEYOND: FELT isn't 0 to 99, nor -1", FULL, "BEYOND", "change(0, 4, -2)", "change(0, 4, 100)",
            "change(0, 5, -2)", "change(0, 5, 100)", "change(0, 6, -2)", "change(0, 6, 100)", "change(0, 7, -2)",
            "change(0, 7, 100)", "change(0, 4, MIN)", "change(0, 7, MAX)");
        Edge.refused("8: beat, BEYOND: no such TENT", FULL, "BEYOND", "beat(-1)", "beat(6)", "beat(MIN)", "beat(MAX)");
    }

    private static void noTents() {
        Edge.refused("1: no TENTS, so there is no TENT 0", FRESH, "BEYOND", "of(0, 0)", "change(0, 1, 3)", "beat(0)",
            "felt(0, 0, 0)", "lies(0, 0)", "unlike(0, 0)", "home(0)", "pitchFor(0, 0, 0, 0)", "kindFor(0, 0)", "first(0, 1, 0)",
            "first(0, 0, 0)", "out(0, 0, 0, 99)", "hold(0, 0)");
    }

    private static void days() {
        Edge.refused("9: go, BEYOND: not 1 to 60", FULL, "BEYOND", "go(0)", "go(61)", "go(-1)", "go(MIN)", "go(MAX)");
        Edge.refused("9: go, STATE: DAY would be above 99999", LAST, "STATE", "go(2)", "go(60)");
        Edge.refused("9: go, BEYOND is asked ahead of STATE", LAST, "BEYOND", "go(61)", "go(MAX)");
        Edge.refused("10: now, BEYOND: another what", FULL, "BEYOND", "now(-1)", "now(6)", "now(MIN)", "now(MAX)");
    }

    private static void flocks() {
        Edge.refused("11: way, BEYOND: no such CELL", FULL, "BEYOND", "way(-1, 0, 99)", "way(25, 0, 99)", "way(0, -1, 99)",
            "way(0, 25, 99)", "way(25, 25, 0)", "way(MIN, 0, 0)", "way(0, MAX, 0)");
        Edge.refused("11: way, BEYOND: the CLIMB isn't 0 to 99", FULL, "BEYOND", "way(0, 24, -1)", "way(0, 24, 100)",
            "way(0, 0, -1)", "way(0, 0, 100)", "way(0, 1, MIN)", "way(0, 1, MAX)");
        Edge.refused("11: way, NONE: there is none", CLIFF, "NONE", "way(0, 24, 98)", "way(24, 0, 98)", "way(0, 1, 98)",
            "way(0, 5, 0)");
        Edge.refused("12: climb, BEYOND", FULL, "BEYOND", "climb(-1, 0)", "climb(25, 0)", "climb(0, -1)", "climb(0, 25)",
            "climb(25, 25)", "climb(MIN, 0)", "climb(0, MAX)");
        Edge.refused("13: reach, BEYOND", FULL, "BEYOND", "reach(-1, 0)", "reach(25, 0)", "reach(0, -1)", "reach(0, 100)",
            "reach(MIN, 0)", "reach(0, MAX)");
        Edge.refused("14: drink, BEYOND", FULL, "BEYOND", "drink(-1, 0)", "drink(25, 0)", "drink(0, -1)", "drink(0, 100)",
            "drink(MAX, 0)", "drink(0, MIN)", "drink(24, 100)");
        Edge.refused("14: drink, NONE: no way to one", CLIFF, "NONE", "drink(0, 98)", "drink(0, 0)");
        Edge.refused("14: drink, NONE: no SPRING at all", FRESH, "NONE", "drink(0, 99)", "drink(24, 0)");
    }

    private static void whatWillBe() {
        Edge.refused("15: ahead, BEYOND", FULL, "BEYOND", "ahead(-1, 0)", "ahead(25, 0)", "ahead(0, -1)", "ahead(0, 101)",
            "ahead(MIN, 1)", "ahead(MAX, 1)", "ahead(0, MIN)", "ahead(0, MAX)");
        Edge.refused("16: felt, BEYOND", FULL, "BEYOND", "felt(-1, 0, 0)", "felt(6, 0, 0)", "felt(0, -1, 0)", "felt(0, 4, 0)",
            "felt(0, 0, -1)", "felt(0, 0, 101)", "felt(MAX, 0, 0)", "felt(0, MIN, 0)", "felt(0, MAX, 0)", "felt(0, 0, MIN)",
            "felt(0, 0, MAX)");
        Edge.refused("17: when, BEYOND", FULL, "BEYOND", "when(-1, 0, 0)", "when(25, 0, 0)", "when(0, -1, 0)", "when(0, 25, 0)",
            "when(0, 1, -1)", "when(0, 1, 100)", "when(3, 3, -1)", "when(3, 3, 100)", "when(MIN, 0, 0)", "when(0, MAX, 0)",
            "when(0, 0, MAX)");
        Edge.refused("17: when, NONE", CLIFF, "NONE", "when(0, 24, 96)", "when(24, 0, 0)");
        Edge.refused("18: settles, NONE", Camps::restless, "NONE", "settles()");
        Edge.refused("19: lies, BEYOND", FULL, "BEYOND", "lies(-1, 0)", "lies(6, 0)", "lies(0, -1)", "lies(0, 100)",
            "lies(MIN, 0)", "lies(MAX, 0)", "lies(0, MIN)", "lies(0, MAX)");
        Edge.refused("19: lies, STATE: it is ROLLED UP", FULL, "STATE", "lies(4, 0)", "lies(5, 99)");
        Edge.refused("19: lies, BEYOND is asked ahead of STATE", FULL, "BEYOND", "lies(4, -1)", "lies(5, 100)");
        Edge.refused("19: lies, STATE is asked ahead of NONE", Camps::restless, "STATE", "lies(3, 0)");
        Edge.refused("19: lies, NONE", CLIFF, "NONE", "lies(1, 1)", "lies(1, 0)");
    }

    private static void whereToPitch() {
        Edge.refused("20: unlike, BEYOND", FULL, "BEYOND", "unlike(-1, 0)", "unlike(6, 0)", "unlike(0, -1)", "unlike(0, 16)",
            "unlike(MIN, 0)", "unlike(0, MAX)");
        Edge.refused("21: home, BEYOND", FULL, "BEYOND", "home(-1)", "home(6)", "home(MIN)", "home(MAX)");
        Edge.refused("22: pitchFor, BEYOND", FULL, "BEYOND", "pitchFor(-1, 0, 0, 0)", "pitchFor(6, 0, 0, 0)",
            "pitchFor(0, -1, 0, 0)", "pitchFor(0, 25, 0, 0)", "pitchFor(0, 0, -1, 0)", "pitchFor(0, 0, 25, 0)",
            "pitchFor(0, 0, 0, -1)", "pitchFor(0, 0, 0, 100)", "pitchFor(MIN, MIN, MIN, MIN)", "pitchFor(0, MAX, 0, 0)",
            "pitchFor(0, 0, MAX, 0)", "pitchFor(0, 0, 0, MAX)");
        Edge.refused("22: pitchFor, NONE", CLIFF, "NONE", "pitchFor(0, 0, 24, 96)", "pitchFor(0, 24, 0, 0)");
        Edge.refused("23: kindFor, BEYOND", FULL, "BEYOND", "kindFor(-1, 0)", "kindFor(6, 0)", "kindFor(0, -1)",
            "kindFor(0, 61)", "kindFor(MIN, 0)", "kindFor(0, MAX)");
        Edge.refused("24: first, BEYOND", FULL, "BEYOND", "first(-1, 0, 0)", "first(6, 0, 0)", "first(0, -1, 0)",
            "first(0, 6, 0)", "first(0, 1, -1)", "first(0, 1, 16)", "first(MIN, 0, 0)", "first(0, MAX, 0)", "first(0, 1, MAX)");
        Edge.refused("24: first, BEYOND: also one and the same", FULL, "BEYOND", "first(0, 0, 0)", "first(5, 5, 15)");
        Edge.refused("25: out, BEYOND", FULL, "BEYOND", "out(-1, 0, 0, 0)", "out(6, 0, 0, 0)", "out(0, -1, 0, 0)",
            "out(0, 16, 0, 0)", "out(0, 0, -1, 0)", "out(0, 0, 100, 0)", "out(0, 0, 0, -1)", "out(0, 0, 0, 100)",
            "out(MIN, 0, 0, 0)", "out(0, MAX, 0, 0)", "out(0, 0, MIN, 0)", "out(0, 0, 0, MAX)");
        Edge.refused("25: out, NONE", CLIFF, "NONE", "out(2, 0, 50, 49)", "out(2, 15, 99, 98)");
    }

    private static void whatWasKept() {
        for (String act : new String[] {"26: fits", "27: kinds"}) {
            String name = act.substring(4);
            Edge.refused(act + ", BEYOND: no such sheet", FULL, "BEYOND", name + "(-1, 0)", name + "(4, 0)", name + "(MIN, 0)",
                name + "(MAX, 0)");
            Edge.refused(act + ", MISSING", FULL, "MISSING", name + "(3, 0)", name + "(3, 5)");
            Edge.refused(act + ", BEYOND: no such TENT", FULL, "BEYOND", name + "(0, -1)", name + "(0, 6)", name + "(2, 6)",
                name + "(1, MIN)", name + "(1, MAX)");
            Edge.refused(act + ", MISSING is asked ahead of the TENT", FULL, "MISSING", name + "(3, -1)", name + "(3, 6)");
            Edge.refused(act + ", the sheet is asked ahead of MISSING", FRESH, "BEYOND", name + "(4, 0)", name + "(-1, -1)");
            Edge.refused(act + ", MISSING at first", FRESH, "MISSING", name + "(0, 0)", name + "(3, -1)");
        }
    }

    private static void nomads() {
        Edge.refused("28: nomads, BEYOND: not 1 to 20", FULL, "BEYOND", "nomads(0)", "nomads(21)", "nomads(-1)", "nomads(MIN)",
            "nomads(MAX)");
        Edge.refused("28: nomads, STATE: DAY would be above 99999", LAST, "STATE", "nomads(2)", "nomads(20)");
        Edge.refused("28: nomads, BEYOND is asked ahead of STATE", LAST, "BEYOND", "nomads(21)", "nomads(MAX)");
        Edge.refused("29: odds, BEYOND", FULL, "BEYOND", "odds(-1, 0)", "odds(16, 0)", "odds(-1, 1)", "odds(16, 1)",
            "odds(0, -1)", "odds(0, 2)", "odds(MIN, 0)", "odds(MAX, 1)", "odds(0, MAX)");
    }

    private static void texts() {
        Edge.refused("31: feed, BEYOND: n", FULL, "BEYOND", "feed(0, 0)", "feed(0, 5)", "feed(0, -1)", "feed(55, MIN)",
            "feed(55, MAX)");
        Edge.refused("31: feed, FULL: the 121st byte", BRIMMING, "FULL", "feed(0, 1)", "feed(0, 2)", "feed(0, 3)",
            "feed(0, 4)");
        Edge.refused("31: feed, BEYOND is asked ahead of FULL", BRIMMING, "BEYOND", "feed(0, 0)", "feed(0, 5)", "feed(0, MAX)");
    }

    private static void spots() {
        Edge.refused("34: hold, BEYOND: no such SPOT", FULL, "BEYOND", "hold(-1, 0)", "hold(10, 0)", "hold(10, -1)",
            "hold(MIN, 0)", "hold(MAX, 0)");
        Edge.refused("34: hold, BEYOND: no such TENT, nor -1", FULL, "BEYOND", "hold(0, -2)", "hold(0, 6)", "hold(9, 6)",
            "hold(1, MIN)", "hold(1, MAX)");
        Edge.refused("35: as, BEYOND: no such SPOT", FULL, "BEYOND", "as(-1, 0)", "as(10, 0)", "as(MIN, 0)", "as(MAX, 0)");
        Edge.refused("35: as, BEYOND: no such kind", FULL, "BEYOND", "as(0, -1)", "as(0, 7)", "as(0, MIN)", "as(9, MAX)");
        Edge.refused("35: as, MISSING: it holds nothing", FULL, "MISSING", "as(1, 0)", "as(8, 6)");
        Edge.refused("35: as, BEYOND is asked ahead of MISSING", FULL, "BEYOND", "as(1, -1)", "as(8, 7)");
        Edge.refused("35: as, KIND: not of that kind, nor of one under it", FULL, "KIND", "as(0, 2)", "as(0, 3)", "as(0, 4)",
            "as(0, 5)", "as(9, 1)", "as(9, 4)", "as(9, 5)", "as(9, 6)");
    }

    private static void sheets() {
        Edge.refused("36: sheet, BEYOND: no such sheet", FULL, "BEYOND", "sheet(-1, 8, 1)", "sheet(4, 8, 1)", "sheet(4, 0, 0)",
            "sheet(MAX, 8, 1)");
        Edge.refused("36: sheet, BEYOND: other bits", FULL, "BEYOND", "sheet(0, 1, 1)", "sheet(0, 7, 1)", "sheet(0, 9, 1)",
            "sheet(0, 15, 1)", "sheet(0, 17, 1)", "sheet(0, 24, 1)", "sheet(0, 31, 1)", "sheet(0, 33, 1)", "sheet(0, 64, 1)",
            "sheet(0, -8, 1)", "sheet(0, -1, 1)", "sheet(0, MIN, 1)", "sheet(0, MAX, 1)");
        Edge.refused("36: sheet, SIZE: n is below 0", FULL, "SIZE", "sheet(0, 8, -1)", "sheet(1, 16, -1)", "sheet(2, 32, -1)",
            "sheet(3, 8, MIN)");
        Edge.refused("36: sheet, SIZE: also with bits 0", FULL, "SIZE", "sheet(0, 0, -1)", "sheet(3, 0, MIN)");
        Edge.refused("36: sheet, BEYOND: n is above 40", FULL, "BEYOND", "sheet(0, 8, 41)", "sheet(1, 16, 41)",
            "sheet(2, 32, 41)", "sheet(3, 8, MAX)", "sheet(0, 0, 41)");
        Edge.refused("36: sheet, sheet and bits are asked ahead of SIZE", FULL, "BEYOND", "sheet(4, 8, -1)", "sheet(-1, 0, -1)",
            "sheet(0, 7, -1)", "sheet(0, 64, MIN)");
        Edge.refused("37: write, BEYOND: no such sheet", FULL, "BEYOND", "write(-1, 0, 1)", "write(4, 0, 1)",
            "write(MIN, 0, 1)", "write(MAX, 0, 1)");
        Edge.refused("37: write, MISSING", FULL, "MISSING", "write(3, 0, 1)");
        Edge.refused("37: write, BEYOND: no such number", FULL, "BEYOND", "write(0, -1, 1)", "write(0, 40, 1)",
            "write(1, 5, 1)", "write(2, 0, 1)", "write(0, MIN, 1)", "write(0, MAX, 1)");
        Edge.refused("37: write, MISSING is asked ahead of the number", FULL, "MISSING", "write(3, -1, 1)", "write(3, 40, 1)");
        Edge.refused("39: load, BEYOND: no such sheet", FULL, "BEYOND", "load(-1)", "load(4)", "load(MIN)", "load(MAX)");
        Edge.refused("39: load, MISSING", FULL, "MISSING", "load(3)");
        Edge.refused("40: judge, BEYOND: no such sheet", FULL, "BEYOND", "judge(-1, 0)", "judge(4, 0)", "judge(MIN, 0)",
            "judge(MAX, 0)");
        Edge.refused("40: judge, MISSING", FULL, "MISSING", "judge(3, 0)", "judge(3, 99)");
        Edge.refused("40: judge, BEYOND: the CLIMB", FULL, "BEYOND", "judge(0, -1)", "judge(0, 100)", "judge(2, -1)",
            "judge(2, 100)", "judge(1, MIN)", "judge(1, MAX)");
        Edge.refused("40: judge, MISSING is asked ahead of the CLIMB", FULL, "MISSING", "judge(3, -1)", "judge(3, 100)");
        Edge.refused("39, 40: MISSING at first", FRESH, "MISSING", "load(0)", "load(3)", "judge(0, 0)", "write(0, 0, 0)",
            "copy(0, 0, 0, 0, 0)");
    }

    private static void copies() {
        Edge.refused("38: copy, BEYOND: no such sheet (either)", FULL, "BEYOND", "copy(-1, 0, 0, 0, 1)", "copy(4, 0, 0, 0, 1)",
            "copy(0, 0, -1, 0, 1)", "copy(0, 0, 4, 0, 1)", "copy(MIN, 0, 0, 0, 0)", "copy(0, 0, MAX, 0, 0)");
        Edge.refused("38: copy, MISSING: one is", FULL, "MISSING", "copy(3, 0, 0, 0, 0)", "copy(0, 0, 3, 0, 0)",
            "copy(3, 0, 3, 0, 0)");
        Edge.refused("38: copy, KIND: they are not of as many bits", FULL, "KIND", "copy(0, 0, 1, 0, 1)", "copy(1, 0, 0, 0, 1)",
            "copy(0, 0, 2, 0, 0)", "copy(2, 0, 0, 0, 0)", "copy(1, 0, 2, 0, 0)", "copy(2, 0, 1, 0, 0)");
        Edge.refused("38: copy, BEYOND: one has not so many", FULL, "BEYOND", "copy(0, 0, 0, 0, 41)", "copy(0, 1, 0, 0, 40)",
            "copy(0, 0, 0, 1, 40)", "copy(0, 40, 0, 0, 1)", "copy(0, 0, 0, 40, 1)", "copy(1, 0, 1, 0, 6)",
            "copy(1, 5, 1, 0, 1)", "copy(1, 0, 1, 5, 1)", "copy(2, 0, 2, 0, 1)", "copy(0, 41, 0, 0, 0)", "copy(0, 0, 0, 41, 0)",
            "copy(0, MAX, 0, 0, 1)", "copy(0, 1, 0, 0, MAX)", "copy(0, 0, 0, MAX, 1)", "copy(0, MAX, 0, MAX, MAX)");
        Edge.refused("38: copy, BEYOND: from, to or n is below 0", FULL, "BEYOND", "copy(0, -1, 0, 0, 1)",
            "copy(0, 0, 0, -1, 1)", "copy(0, 0, 0, 0, -1)", "copy(0, 5, 0, 0, -1)", "copy(0, -1, 0, 0, 0)",
            "copy(0, 0, 0, -1, 0)", "copy(0, MIN, 0, 0, 1)", "copy(0, 0, 0, MIN, 1)", "copy(0, 0, 0, 0, MIN)",
            "copy(0, 40, 0, 40, MIN)");
        Edge.refused("38: copy, the sheets are asked ahead of MISSING", FULL, "BEYOND", "copy(3, 0, 4, 0, 0)",
            "copy(-1, 0, 3, 0, 0)");
        Edge.refused("38: copy, MISSING is asked ahead of KIND and of how many", FULL, "MISSING", "copy(3, 0, 1, 0, 1)",
            "copy(1, 0, 3, 0, 1)", "copy(3, -1, 0, 0, 1)", "copy(0, 0, 3, 0, -1)", "copy(3, 0, 3, 0, 41)");
        Edge.refused("38: copy, KIND is asked ahead of how many", FULL, "KIND", "copy(0, -1, 1, 0, 1)", "copy(0, 0, 1, -1, 1)",
            "copy(0, 0, 1, 0, -1)", "copy(0, 0, 1, 0, 41)", "copy(1, 0, 2, 0, 5)");
    }

    private static void images() {
        Edge.refused("42: undo, NONE: nothing is kept", FRESH, "NONE", "undo()");
        Edge.refused("42: undo, NONE: nothing is kept, in a camp", CLIFF, "NONE", "undo()");
        Edge.refused("44: count, BEYOND: another what", FULL, "BEYOND", "count(-1)", "count(8)", "count(MIN)", "count(MAX)");
        Edge.refused("45: status, BEYOND (counted from then on): another one", FULL, "BEYOND", "status(-2)", "status(7)",
            "status(MIN)", "status(MAX)");
    }
}
