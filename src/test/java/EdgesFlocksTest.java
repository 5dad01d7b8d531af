/** The edges that the document names: ways of flocks; promises 11 to 14, and 17 and 40 where they ask for a way. */
public final class EdgesFlocksTest {
    /** Heights rise by 1 along a line that winds through all rows; from row to row they differ by 1, 3, 5, 7 and 9. */
    private static final String WINDING = "ground("
        + "0, 1, 2, 3, 4, "
        + "9, 8, 7, 6, 5, "
        + "10, 11, 12, 13, 14, "
        + "19, 18, 17, 16, 15, "
        + "20, 21, 22, 23, 24) = 25";

    public static void main(String[] args) {
        way();
        climb();
        reach();
        drink();
        Check.end();
    }

    private static void way() {
        Edge.run("11: on the flat, with the least CLIMB", "way(0, 24, 0) = 8", "way(24, 0, 0) = 8", "way(4, 20, 0) = 8",
            "way(0, 1, 0) = 1", "way(0, 5, 0) = 1", "way(0, 6, 0) = 2", "way(4, 5, 0) = 5", "way(24, 19, 0) = 1",
            "way(24, 23, 0) = 1");
        Edge.run("11: from a CELL to itself", "way(0, 0, 0) = 0", "way(24, 24, 99) = 0", "height(12, 99) = 50",
            "way(12, 12, 0) = 0", "way(12, 7, 0) = NONE");
        Edge.run("11: HEIGHTS differ by no more than told, up", "height(1, 57) = 50", "height(5, 57) = 50", "way(0, 1, 7) = 1",
            "way(0, 1, 6) = NONE", "way(0, 24, 7) = 8", "way(0, 24, 6) = NONE");
        Edge.run("11: HEIGHTS differ by no more than told, down", "height(1, 43) = 50", "height(5, 43) = 50",
            "way(0, 1, 7) = 1", "way(0, 1, 6) = NONE", "way(0, 24, 7) = 8", "way(0, 24, 6) = NONE");
        Edge.run("11: CLIMB 0 to 99, the greatest", "read(height 0 0;height 1 99;height 5 99) = 3", "way(0, 24, 99) = 8",
            "way(0, 24, 98) = NONE", "way(24, 0, 99) = 8", "way(0, 24, 100) = BEYOND", "way(0, 24, -1) = BEYOND",
            "status(3) = 1", "status(0) = 2");
        Edge.run("11: the longest of the shortest", WINDING, "way(0, 24, 1) = 24", "way(24, 0, 1) = 24", "way(0, 24, 2) = 24",
            "way(0, 24, 3) = 16", "way(0, 24, 4) = 16", "way(0, 24, 5) = 8", "way(0, 24, 0) = NONE");
    }

    private static void climb() {
        Edge.run("12: the least there is", "climb(0, 24) = 0", "climb(24, 24) = 0", "climb(0, 0) = 0");
        Edge.run("12: to itself, whatever is around", "read(height 0 0;height 1 99;height 5 99) = 3", "climb(0, 0) = 0",
            "climb(1, 1) = 0");
        Edge.run("12: the greatest there is", "read(height 0 0;height 1 99;height 5 99) = 3", "climb(0, 24) = 99",
            "climb(24, 0) = 99", "climb(0, 1) = 99", "climb(1, 24) = 49");
        Edge.run("12: the least CLIMB, not the fewest steps", WINDING, "climb(0, 24) = 1", "climb(0, 5) = 1", "climb(5, 0) = 1",
            "height(4, 99) = 4", "climb(0, 24) = 3", "height(3, 99) = 3", "climb(0, 24) = 5");
        Edge.run("12: as way tells", WINDING, "height(22, 99) = 22", "climb(0, 24) = 7", "way(0, 24, 7) = 8",
            "way(0, 24, 6) = NONE");
    }

    private static void reach() {
        Edge.run("13: itself, too, and nothing else", "height(0, 51) = 50", "reach(0, 0) = 1", "reach(24, 0) = 33554430",
            "reach(0, 1) = 33554431");
        Edge.run("13: itself, the last CELL", "height(24, 51) = 50", "reach(24, 0) = 16777216", "reach(0, 0) = 16777215");
        Edge.run("13: CLIMB 0 to 99", "read(height 0 0;height 1 99;height 5 99) = 3", "reach(0, 98) = 1",
            "reach(0, 99) = 33554431", "reach(0, 100) = BEYOND", "reach(0, -1) = BEYOND", "reach(1, 0) = 2");
        Edge.run("13: all by way of all", WINDING, "reach(0, 1) = 33554431", "reach(0, 0) = 1", "height(9, 99) = 5",
            "reach(0, 1) = 31", "reach(24, 1) = 33553888");
    }

    private static void drink() {
        Edge.run("14: NONE: no SPRING", "drink(0, 99) = NONE", "status(3) = 1");
        Edge.run("14: the CELL itself takes no steps", "spring(0, 1) = 0", "spring(1, 1) = 0", "drink(1, 0) = 1",
            "drink(0, 0) = 0", "drink(24, 0) = 1");
        Edge.run("14: fewest steps", "spring(0, 1) = 0", "spring(24, 1) = 0", "drink(13, 0) = 24", "drink(11, 0) = 0");
        Edge.run("14: of several that would do the least number counts", "spring(0, 1) = 0", "spring(24, 1) = 0",
            "drink(12, 0) = 0", "drink(4, 0) = 0", "drink(20, 0) = 0", "spring(20, 1) = 0", "drink(12, 0) = 0",
            "spring(0, 0) = 1", "drink(12, 0) = 20", "spring(4, 1) = 0", "drink(12, 0) = 4");
        Edge.run("14: a near one to which there is no WAY", "spring(1, 1) = 0", "spring(24, 1) = 0", "height(1, 60) = 50",
            "drink(0, 9) = 24", "drink(0, 10) = 1", "drink(1, 9) = 1");
        Edge.run("14: NONE: no WAY to one", "spring(1, 1) = 0", "height(1, 60) = 50", "drink(0, 9) = NONE",
            "drink(24, 9) = NONE", "drink(24, 10) = 1", "status(3) = 2");
        Edge.run("14: CLIMB 0 to 99", "spring(1, 1) = 0", "height(1, 0) = 50", "height(0, 99) = 50", "drink(0, 99) = 1",
            "drink(0, 100) = BEYOND", "drink(0, -1) = BEYOND");
        Edge.run("14: by steps of the WAY, not across", WINDING, "spring(5, 1) = 0", "spring(4, 1) = 0", "drink(0, 1) = 4",
            "drink(0, 9) = 5", "drink(0, 7) = 5", "drink(0, 6) = 4");
    }
}
