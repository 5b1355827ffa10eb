/** Sentences about lines and the lines of levels, promises 14 to 22, at their boundaries. */
final class LineEdges {
    private static final String HILLS = "tell(L0,10-4,11-8,10-9,14-12,10;)";
    /** Weighs 32, as much as level 4 removes; its triangle lies on the row y = 10, from x = 10 to 18. */
    private static final String ROOF = "tell(L10,10-14,14-18,10;)";

    private LineEdges() {
    }

    static void run() {
        vertices();
        simple();
        apart();
        levels();
        weights();
        tolerances();
        order();
        fullMap();
        pointsInTriangle();
        trianglesTurned();
        flatTriangle();
        heldByOtherLine();
        heldByOwnLine();
        whyOrder();
        lost();
        removed();
        extent();
        mostSimplified();
        lineAt();
        refused();
    }

    private static void vertices() {
        Edge.says(14, "A line has 2 to 10 vertices, numbered from 0, whose successive ones are different;");
        Edge.onNew("tell(L0,0;) = !argument", "tell(L0,0-0,9;) = 1", "vertices(0, 0) = 2", "vertex(0, 0, 1, true) = 9",
                "vertex(0, 0, 2, true) = !index", "tell(L2,0-2,9-3,9;) = 1", "vertices(0, 1) = 3");
        Edge.onNew("tell(L0,0-1,1-2,0-3,1-4,0-5,1-6,0-7,1-8,0;) = 1", "vertices(0, 0) = 9",
                "vertex(0, 0, 8, false) = 8", "vertex(0, 0, 9, false) = !index");
        Edge.onNew("tell(L0,0-1,1-2,0-3,1-4,0-5,1-6,0-7,1-8,0-9,1;) = 1", "vertices(0, 0) = 10",
                "vertex(0, 0, 9, false) = 9", "vertex(0, 0, 10, false) = !index", "vertex(0, 0, 0, false) = 0",
                "vertex(0, 0, -1, false) = !index");
        Edge.onNew("tell(L0,0-1,1-2,0-3,1-4,0-5,1-6,0-7,1-8,0-9,1-9,2;) = !argument", "errorPosition() = 40");
        Edge.onNew("tell(L5,5-5,5;) = !unsupported", "tell(L5,5-5,6-5,6;) = !unsupported", "tell(L5,5-5,6;) = 1",
                "tell(L7,5-6,5;) = 1");
        Edge.says(14, "Returns the number of vertices of a line.");
        Edge.on(Edge.made("tell(L0,0-1,1-2,0-3,1-4,0-5,1-6,0-7,1-8,0-9,1;L0,9-1,9;)"), "vertices(0, 0) = 10",
                "vertices(0, 1) = 2", "vertices(4, 0) = 2", "vertices(4, 1) = 2");
        Edge.says(14, "Returns the number.");
        Edge.on(Edge.made(HILLS), "vertices(0, 0) = 5", "vertices(1, 0) = 4", "vertices(2, 0) = 2");
        Edge.says(15, "Returns a coordinate of a vertex.");
        Edge.on(Edge.made("tell(L0,63-63,0;)"), "vertex(0, 0, 0, false) = 0", "vertex(0, 0, 0, true) = 63",
                "vertex(0, 0, 1, false) = 63", "vertex(0, 0, 1, true) = 0");
        Edge.says(15, "Returns the coordinate.");
        Edge.on(Edge.made(HILLS), "vertex(1, 0, 2, false) = 9", "vertex(1, 0, 2, true) = 14",
                "vertex(2, 0, 1, false) = 12");
        Edge.says(15, "`isY`: true for y, false for x");
        Edge.on(Edge.made("tell(L1,2-3,4;)"), "vertex(4, 0, 0, false) = 1", "vertex(4, 0, 0, true) = 2",
                "vertex(4, 0, 1, false) = 3", "vertex(4, 0, 1, true) = 4");
    }

    private static void simple() {
        Edge.says(40, "A line is simple if two neighboring segments have only their common vertex in common, and two"
                + " other segments nothing.");
        String[] wrong = {"L0,0-4,0-3,0;", "L5,9-5,0-5,1;", "L0,0-6,3-4,2;", "L0,0-6,3-8,4-6,3;", "L0,0-4,0-4,4-2,0;",
            "L0,1-4,1-4,4-2,4-2,0;", "L0,0-4,0-4,2-6,0-2,0;", "L0,0-4,0-8,4-8,8-4,0;", "L0,0-3,3-0,3-2,1;",
            "L0,0-3,3-3,0-0,3;", "L9,9-9,0-0,0-0,9-9,8;", "L0,0-9,0-9,9-3,9-3,5-0,5-5,5;"};
        for (String line : wrong) {
            Edge.onNew("tell(" + line + ") = !unsupported", "count(0) = 0");
        }
        String[] right = {"L0,0-4,0-8,0;", "L0,0-4,0-4,1;", "L5,9-5,0-6,1;", "L0,0-6,3-4,3;", "L0,0-6,3-4,1;",
            "L0,0-4,0-4,4-2,1;", "L0,1-4,1-4,4-2,4-2,2;", "L0,0-4,0-4,2-8,2-8,0-5,0;", "L0,0-4,0-8,4-8,8-4,1;",
            "L0,0-3,3-0,3-1,2;", "L0,0-3,3-3,0-2,1;", "L9,9-9,0-0,0-0,9-8,9;", "L5,0-5,3-5,9;", "L5,9-5,3-5,0;",
            "L5,9-5,7-5,0;", "L9,5-3,5-0,5;", "L9,5-7,5-0,5;", "L0,0-2,4-3,6;", "L3,6-2,4-0,0;", "L0,6-1,4-3,0;"};
        for (String line : right) {
            Edge.onNew("tell(" + line + ") = 1", "text(0, 0) = " + line);
        }
        Edge.says(40, "A line that ends where it begins, or goes back on itself, is not simple.");
        Edge.onNew("tell(L0,0-9,0-9,9-0,0;) = !unsupported", "tell(L0,0-9,0-0,0;) = !unsupported",
                "tell(L0,0-9,0-9,9-0,9-0,0;) = !unsupported", "tell(L5,0-9,0-0,0;) = !unsupported",
                "tell(L0,0-9,0-9,9-0,9-0,1;) = 1");
        Edge.onNew("tell(L9,0-0,0-5,0;) = !unsupported", "tell(L9,0-0,0-1,0;) = !unsupported",
                "tell(L9,0-0,0-1,1;) = 1");
    }

    private static void apart() {
        Edge.says(40, "all of them are simple, and different lines have nothing in common.");
        String[] wrong = {"L10,10-10,20;", "L20,10-30,10;", "L9,9-10,10;", "L15,10-15,20;", "L15,0-15,10;",
            "L15,9-15,11;", "L10,10-20,10;", "L20,10-10,10;", "L12,10-18,10;", "L5,10-25,10;", "L5,10-10,10;",
            "L19,10-21,10;", "L0,0-0,20-20,20-20,10;", "L14,9-15,11;"};
        for (String line : wrong) {
            Edge.onNew("tell(L10,10-20,10;) = 1", "tell(" + line + ") = !unsupported", "count(0) = 1", "undo() = 0");
            Edge.onNew("tell(" + line + ") = 1", "tell(L10,10-20,10;) = !unsupported", "count(0) = 1");
        }
        String[] right = {"L10,11-20,11;", "L10,9-20,9;", "L21,10-30,10;", "L9,10-0,10;", "L15,11-15,20;",
            "L15,0-15,9;", "L9,9-9,11-21,11-21,9;", "L20,9-21,10-20,11;"};
        for (String line : right) {
            Edge.onNew("tell(L10,10-20,10;) = 1", "tell(" + line + ") = 1", "count(0) = 2");
        }
        Edge.onNew("tell(L0,0-3,3;) = 1", "tell(L1,2-2,1;) = !unsupported", "tell(L1,0-3,2;) = 1",
                "tell(L0,1-2,3;) = 1");
        Edge.onNew("tell(L0,0-6,3;) = 1", "tell(L2,1-2,9;) = !unsupported", "tell(L3,1-3,2;) = !unsupported",
                "tell(L3,2-3,9;) = 1", "tell(L3,1-3,0;) = 1");
    }

    private static void levels() {
        Edge.says(14, "They are made from those of the level before.");
        Edge.on(Edge.made(HILLS), "text(0, 0) = L0,10-4,11-8,10-9,14-12,10;", "text(1, 0) = L0,10-8,10-9,14-12,10;",
                "text(2, 0) = L0,10-12,10;", "text(3, 0) = L0,10-12,10;", "text(4, 0) = L0,10-12,10;",
                "set(2, 0, 8) = 16", "text(2, 0) = L0,10-8,10-9,14-12,10;", "text(3, 0) = L0,10-12,10;");
        Edge.says(14, "lines are taken as far as they are made on this level;");
        Edge.on(Edge.made("tell(L0,0-4,4-8,0;L2,0-2,1-3,0;)"), "text(1, 1) = L2,0-3,0;", "why(4, 0, 1) = 4",
                "set(1, 0, 0) = 8", "text(1, 1) = L2,0-2,1-3,0;", "removeLine(1) = 1", "vertices(4, 0) = 2");
        MapGeneralizer opens = Edge.made(ROOF, "tell(L12,5-14,10-16,5;)", "set(2, 0, 8)", "set(3, 0, 8)");
        Edge.on(opens, "why(3, 0, 1) = 2", "why(3, 1, 1) = 2", "vertices(4, 1) = 2", "vertices(4, 0) = 2",
                "addPoint(14, 7, 0, 2, 1, 0) = 0", "why(4, 1, 1) = 3", "why(4, 0, 1) = 4", "removePoint(0) = 0",
                "set(4, 0, 31) = 32", "vertices(4, 1) = 2", "why(4, 0, 1) = 2", "set(4, 0, 19) = 31",
                "why(4, 1, 1) = 2");
        Edge.says(17, "why tells the reasons by the finished lines of its level.");
        Edge.on(Edge.made(HILLS), "why(0, 0, 2) = 2", "why(1, 0, 1) = 2", "why(2, 0, 1) = 1", "set(1, 0, 16) = 8",
                "vertices(1, 0) = 2", "why(1, 0, 1) = 1");
        Edge.on(Edge.made("tell(L0,0-2,0-4,0-6,1;)"), "why(0, 0, 1) = 0", "why(0, 0, 2) = 2", "text(1, 0) = L0,0-6,1;",
                "set(1, 0, 0) = 8", "text(1, 0) = L0,0-4,0-6,1;", "why(1, 0, 1) = 2");
    }

    private static void weights() {
        Edge.says(18, "The weight of a vertex of a line, other than its first and last one, is two times the area of"
                + " the triangle of the vertex before it, itself, and the vertex behind it;");
        String[][] cases = {{"L0,0-2,0-4,0;", "0"}, {"L0,0-1,0-2,1;", "1"}, {"L0,0-1,1-2,1;", "1"},
            {"L4,4-2,2-0,0;", "0"}, {"L0,0-63,0-63,63;", "3969"}, {"L0,63-0,0-63,0;", "3969"},
            {"L0,0-63,63-0,63;", "3969"}, {"L0,0-62,0-63,63;", "3906"}, {"L0,0-0,1-1,1;", "1"},
            {"L10,10-14,14-18,10;", "32"}, {"L18,10-14,14-10,10;", "32"}, {"L10,14-14,10-18,14;", "32"},
            {"L0,0-1,2-3,3;", "3"}};
        for (String[] one : cases) {
            Edge.onNew("tell(" + one[0] + ") = 1", "weight(0, 0, 1) = " + one[1], "weight(0, 0, 0) = -1",
                    "weight(0, 0, 2) = -1", "weight(0, 0, 3) = !index", "weight(0, 0, -1) = !index");
        }
        Edge.says(18, "Returns the weight, -1 if it is the first or last one of its line.");
        Edge.on(Edge.made("tell(L0,0-0,9;)", "tell(L1,0-2,1-3,0-4,1-5,0-6,1-7,0-8,1-9,0-10,5;)"),
                "weight(0, 0, 0) = -1", "weight(0, 0, 1) = -1", "weight(0, 0, 2) = !index", "weight(0, 1, 0) = -1",
                "weight(0, 1, 1) = 2", "weight(0, 1, 8) = 6", "weight(0, 1, 9) = -1", "weight(0, 1, 10) = !index");
        Edge.says(18, "Returns the weight of a vertex.");
        Edge.on(Edge.made(HILLS), "weight(0, 0, 1) = 8", "weight(0, 0, 2) = 17", "weight(0, 0, 3) = 16",
                "weight(1, 0, 1) = 32", "weight(1, 0, 2) = 16", "weight(1, 0, 3) = -1");
        Edge.says(18, "weights are those of the lines as they are then.");
        Edge.on(Edge.made("tell(L0,0-10,10-20,10-21,10-30,0;)", "set(1, 0, 10)"), "weight(0, 0, 3) = 10",
                "text(1, 0) = L0,0-10,10-21,10-30,0;", "weight(1, 0, 2) = 110");
    }

    private static void tolerances() {
        Edge.says(17, "2, its weight is greater than the tolerance;");
        Edge.on(Edge.made("tell(L0,0-1,0-2,1;)", "set(1, 0, 0)"), "why(1, 0, 1) = 2", "set(1, 0, 1) = 0",
                "vertices(1, 0) = 2", "set(1, 0, 2) = 1", "vertices(1, 0) = 2", "set(1, 0, 0) = 2",
                "vertices(1, 0) = 3");
        Edge.on(Edge.made("tell(L0,0-2,0-4,0;)", "set(1, 0, 0)"), "vertices(1, 0) = 2");
        Edge.on(Edge.made(ROOF), "why(3, 0, 1) = 2", "vertices(4, 0) = 2", "set(4, 0, 31) = 32", "why(4, 0, 1) = 2",
                "set(4, 0, 33) = 31", "vertices(4, 0) = 2");
        String[][] great = {{"L0,0-1,10-50,1;", "499", "2"}, {"L0,0-50,11-50,1;", "500", "2"},
            {"L0,0-49,11-50,1;", "501", "3"}};
        for (String[] one : great) {
            Edge.on(Edge.made("tell(" + one[0] + ")", "set(4, 0, 500)"), "weight(0, 0, 1) = " + one[1],
                    "vertices(4, 0) = " + one[2], "vertices(3, 0) = 3");
        }
        Edge.says(17, "Returns why a vertex of a level stays by the tolerance of this level, where the tolerance of"
                + " level 0 is 0.");
        Edge.on(Edge.made("tell(L0,0-2,0-4,0;)"), "why(0, 0, 1) = 0");
        Edge.on(Edge.made("tell(L0,0-1,0-2,1;)"), "why(0, 0, 1) = 2", "set(1, 0, 0) = 8", "why(1, 0, 1) = 2");
        Edge.says(17, "Returns the reason, 1 to 4;");
        Edge.on(Edge.made("tell(L0,0-4,0-8,0;)"), "why(0, 0, 0) = 1", "why(0, 0, 1) = 0", "why(0, 0, 2) = 1",
                "why(1, 0, 1) = 1");
        Edge.says(17, "0 if it need not stay, which is possible on level 0 only.");
        Edge.on(Edge.made("tell(L0,0-4,0-8,0;)", "set(1, 0, 0)"), "why(0, 0, 1) = 0", "vertices(1, 0) = 2");
    }

    private static void order() {
        Edge.says(15, "As long as there is a vertex that need not stay, the one with the least weight is removed;");
        Edge.on(Edge.made("tell(L0,0-10,10-20,10-21,10-30,0;)", "set(1, 0, 10)"),
                "text(1, 0) = L0,0-10,10-21,10-30,0;");
        Edge.on(Edge.made("tell(L0,0-1,1-2,0-3,1-4,0-5,1-6,0-7,1-8,0-9,1;)"), "vertices(1, 0) = 2",
                "removed(0, 1) = 8");
        Edge.on(Edge.made("tell(L5,2-5,3-0,1;L2,7-6,2-7,0-4,1;)", "set(1, 0, 4)"), "weight(0, 1, 1) = 3",
                "why(1, 1, 1) = 4", "why(1, 0, 1) = 2", "why(1, 1, 2) = 2");
        Edge.says(15, "of several, the one of the line with the lowest number, and of these the first one of the"
                + " line.");
        Edge.on(Edge.made("tell(L2,7-6,2-7,0-4,1;L5,2-5,3-0,1;)", "set(1, 0, 5)"), "weight(0, 0, 2) = 5",
                "weight(0, 1, 1) = 5", "text(1, 0) = L2,7-6,2-4,1;", "text(1, 1) = L5,2-0,1;");
        Edge.on(Edge.made("tell(L5,2-5,3-0,1;L2,7-6,2-7,0-4,1;)", "set(1, 0, 5)"), "weight(0, 0, 1) = 5",
                "weight(0, 1, 2) = 5", "text(1, 0) = L5,2-0,1;", "text(1, 1) = L2,7-7,0-4,1;");
        Edge.on(Edge.made("tell(L0,0-1,1-2,0-3,1-4,0;)", "set(1, 0, 2)"), "text(1, 0) = L0,0-3,1-4,0;");
        Edge.on(Edge.made("tell(L4,0-3,1-2,0-1,1-0,0;)", "set(1, 0, 2)"), "text(1, 0) = L4,0-1,1-0,0;");
    }

    /** Six lines of ten vertices, in bands of two rows, and twelve points. */
    private static void fullMap() {
        Edge.says(14, "There are at most 6 lines, numbered from 0 in the order in which they were added;");
        MapGeneralizer map = Edge.made("set(1, 0, 0)", "set(2, 0, 1)", "set(3, 0, 2)");
        for (int line = 0; line < 6; line++) {
            int y = 3 * line;
            StringBuilder text = new StringBuilder("L");
            for (int x = 0; x < 10; x++) {
                text.append(x == 0 ? "" : "-").append(x).append(',').append(y + x % 2);
            }
            Edge.on(map, "tell(" + text + ";) = 1", "vertex(0, " + line + ", 9, true) = " + (y + 1));
        }
        Edge.on(map, "count(4) = 60", "removed(0, 1) = 0", "removed(0, 2) = 0", "tell(L0,60-9,60;) = !state",
                "weight(2, 5, 8) = 2", "why(2, 5, 8) = 2", "why(2, 5, 9) = 1", "set(2, 0, 2) = 1", "removed(1, 2) = 48",
                "lost(5, 8) = 2", "lost(5, 9) = 5", "mostSimplified(4) = 0", "extent(0, 5) = 18", "extent(4, 5) = 10");
        for (int line = 0; line < 6; line++) {
            Edge.on(map, "text(2, " + line + ") = L0," + 3 * line + "-9," + (3 * line + 1) + ";");
        }
        for (int point = 0; point < 12; point++) {
            Edge.make(map, "addPoint(" + (20 + 3 * point) + ", 30, 9, 2, 1, 0)");
        }
        Edge.on(map, "count(1) = 12", "vertices(1, 5) = 10", "vertices(2, 5) = 2", "labels(4) = 12");
    }

    private static void pointsInTriangle() {
        Edge.says(17, "this triangle includes its sides.");
        for (int x = 11; x <= 17; x++) {
            Edge.on(Edge.made(ROOF, "addPoint(" + x + ", 10, 9, 2, 1, 0)"), "why(4, 0, 1) = 3", "removePoint(0) = 0",
                    "vertices(4, 0) = 2");
        }
        Edge.says(17, "3, a point is in its triangle;");
        String[] inside = {"14, 11", "14, 12", "14, 13", "12, 11", "16, 11", "13, 12", "15, 12"};
        for (String at : inside) {
            Edge.on(Edge.made(ROOF, "addPoint(" + at + ", 5, 2, 1, 0)"), "why(4, 0, 1) = 3", "vertices(4, 0) = 3");
        }
        String[] outside = {"9, 10", "19, 10", "14, 9", "11, 9", "14, 15", "13, 14", "15, 14", "12, 13", "16, 13",
            "10, 11", "18, 11", "9, 9", "19, 9", "0, 10", "63, 10"};
        for (String at : outside) {
            Edge.on(Edge.made(ROOF, "addPoint(" + at + ", 5, 2, 1, 0)"), "vertices(4, 0) = 2");
        }
        Edge.says(17, "For the reasons why a vertex stays, all points count, shown or not");
        Edge.on(Edge.made(ROOF, "addPoint(14, 12, 0, 2, 1, 0)", "set(4, 2, 9)"), "shown(4) = 0", "why(4, 0, 1) = 3");
        Edge.on(Edge.made(ROOF, "addPoint(14, 12, 9, 2, 1, 0)", "set(4, 2, 9)"), "shown(4) = 1", "why(4, 0, 1) = 3");
        MapGeneralizer last = Edge.made(ROOF);
        for (int i = 0; i < 11; i++) {
            Edge.make(last, "addPoint(" + 5 * i + ", 40, 5, 2, 1, 0)");
        }
        Edge.on(last, "vertices(4, 0) = 2", "addPoint(14, 12, 0, 2, 1, 0) = 11", "why(4, 0, 1) = 3");
    }

    /** The six lines through the corners of a triangle, in each order: any side may be the new segment. */
    private static String[] linesThrough(String a, String b, String c) {
        return new String[] {"L" + a + "-" + b + "-" + c, "L" + c + "-" + b + "-" + a, "L" + b + "-" + a + "-" + c,
            "L" + c + "-" + a + "-" + b, "L" + a + "-" + c + "-" + b, "L" + b + "-" + c + "-" + a};
    }

    private static void trianglesTurned() {
        Edge.says(17, "3, a point is in its triangle;");
        for (String line : linesThrough("10,10", "14,15", "19,12")) {
            for (String at : new String[] {"11, 11", "17, 13", "14, 11", "14, 12", "14, 14"}) {
                Edge.on(Edge.made("tell(" + line + ";)", "set(4, 0, 37)", "addPoint(" + at + ", 5, 2, 1, 0)"),
                        "weight(0, 0, 1) = 37", "why(4, 0, 1) = 3");
            }
            for (String at : new String[] {"13, 14", "16, 14", "15, 11", "10, 11", "9, 10", "20, 12", "14, 16"}) {
                Edge.on(Edge.made("tell(" + line + ";)", "set(4, 0, 37)", "addPoint(" + at + ", 5, 2, 1, 0)"),
                        "vertices(4, 0) = 2");
            }
        }
        Edge.says(17, "this triangle includes its sides.");
        String[] sides = {"11, 10; 14, 10; 17, 10; 9, 10; 19, 10", "11, 10; 14, 10; 17, 10; 9, 10; 19, 10",
            "15, 13; 16, 12; 17, 11; 13, 15; 19, 9", "15, 13; 16, 12; 17, 11; 13, 15; 19, 9",
            "11, 11; 12, 12; 13, 13; 9, 9; 15, 15", "11, 11; 12, 12; 13, 13; 9, 9; 15, 15"};
        String[] lines = linesThrough("10,10", "14,14", "18,10");
        for (int i = 0; i < lines.length; i++) {
            String[] places = sides[i].split("; ");
            for (int place = 0; place < places.length; place++) {
                Edge.on(Edge.made("tell(" + lines[i] + ";)", "addPoint(" + places[place] + ", 5, 2, 1, 0)"),
                        place < 3 ? "why(4, 0, 1) = 3" : "vertices(4, 0) = 2");
            }
        }
    }

    private static void flatTriangle() {
        Edge.says(17, "A triangle without area consists of its sides.");
        String[] lines = {"L10,10-12,10-14,10;", "L14,10-12,10-10,10;", "L10,10-10,12-10,14;", "L10,14-10,12-10,10;",
            "L10,10-12,12-14,14;", "L14,10-12,12-10,14;"};
        String[][] beside = {{"9, 10", "15, 10", "12, 11", "12, 9"}, {"9, 10", "15, 10", "11, 9", "13, 11"},
            {"10, 9", "10, 15", "9, 12", "11, 12"}, {"10, 9", "10, 15", "9, 11", "11, 13"},
            {"9, 9", "15, 15", "12, 11", "11, 12"}, {"15, 9", "9, 15", "12, 11", "12, 13"}};
        for (int i = 0; i < lines.length; i++) {
            for (String at : beside[i]) {
                Edge.on(Edge.made("tell(" + lines[i] + ")", "addPoint(" + at + ", 5, 2, 1, 0)"), "why(0, 0, 1) = 0",
                        "vertices(1, 0) = 2");
            }
        }
    }

    private static void heldByOtherLine() {
        Edge.says(17, "4, without it, its line would not be simple, or would have something in common with another"
                + " line, as they are then.");
        String[] inTheWay = {"L14,10-14,5;", "L14,11-14,5;", "L14,5-14,10;", "L13,10-15,10;", "L11,10-10,9;",
            "L17,10-18,9;", "L14,9-15,11;", "L14,13-14,0;"};
        for (String line : inTheWay) {
            Edge.on(Edge.made(ROOF, "tell(" + line + ")"), "why(4, 0, 1) = 4", "vertices(4, 0) = 3",
                    "removeLine(1) = 1", "vertices(4, 0) = 2");
        }
        String[] beside = {"L14,9-14,5;", "L13,11-15,11;", "L14,11-14,13;", "L9,10-0,10;", "L19,10-30,10;",
            "L10,9-18,9;", "L12,11-16,11;", "L9,9-9,20;", "L14,15-14,30;"};
        for (String line : beside) {
            Edge.on(Edge.made(ROOF, "tell(" + line + ")"), "vertices(4, 0) = 2");
            Edge.on(Edge.made("tell(" + line + ")", ROOF), "vertices(4, 1) = 2");
        }
        Edge.on(Edge.made("tell(L0,0-5,0;L0,2-5,2;L0,4-5,4;L0,6-5,6;)", ROOF, "tell(L14,10-14,5;)"), "why(4, 4, 1) = 4",
                "removeLine(5) = 5", "vertices(4, 4) = 2");
    }

    private static void heldByOwnLine() {
        Edge.says(17, "without it, its line would not be simple");
        String start = "L10,20-14,24-18,20-50,20-50,2-14,2-14,";
        Edge.on(Edge.made("tell(" + start + "19;)"), "vertices(4, 0) = 5");
        Edge.on(Edge.made("tell(" + start + "20;)"), "why(4, 0, 1) = 4", "vertices(4, 0) = 7");
        Edge.on(Edge.made("tell(" + start + "21;)"), "why(4, 0, 1) = 4", "vertices(4, 0) = 7");
        String end = "19-14,2-50,2-50,20-18,20-14,24-10,20;)";
        Edge.on(Edge.made("tell(L14," + end), "vertices(4, 0) = 5");
        Edge.on(Edge.made("tell(L14," + end.replace("19-", "20-")), "why(4, 0, 5) = 4", "vertices(4, 0) = 7");
        Edge.on(Edge.made("tell(L0,0-4,2-8,0-4,0;L3,1-5,1;)"), "why(4, 0, 1) = 4", "why(4, 0, 2) = 4",
                "removeLine(1) = 1", "vertices(1, 0) = 2");
        Edge.on(Edge.made("tell(L4,0-8,0-4,2-0,0;L3,1-5,1;)"), "why(4, 0, 2) = 4", "why(4, 0, 1) = 4");
    }

    private static void whyOrder() {
        Edge.says(17, "A vertex stays for the first of these reasons that applies: 1, it is the first or last one of"
                + " its line;");
        Edge.on(Edge.made(ROOF), "why(0, 0, 0) = 1", "why(0, 0, 2) = 1", "why(4, 0, 0) = 1", "why(4, 0, 1) = 1");
        Edge.on(Edge.made("tell(L10,10-14,15-18,10;L14,10-14,5;)", "addPoint(14, 12, 5, 2, 1, 0)"), "why(4, 0, 1) = 2");
        Edge.on(Edge.made(ROOF, "tell(L14,10-14,5;)", "addPoint(14, 12, 5, 2, 1, 0)"), "why(3, 0, 1) = 2",
                "why(4, 0, 1) = 3", "removePoint(0) = 0", "why(4, 0, 1) = 4", "removeLine(1) = 1", "why(4, 0, 1) = 1");
        Edge.on(Edge.made("tell(L10,10-14,10-18,10-14,9;)"), "why(0, 0, 1) = 0", "why(0, 0, 2) = 2");
        Edge.on(Edge.made("tell(L10,10-14,10-18,10;)"), "why(0, 0, 1) = 0");
    }

    private static void lost() {
        Edge.says(16, "Returns the level on which a vertex of level 0 is removed.");
        int[][] cases = {{1, 1}, {8, 1}, {9, 2}, {16, 2}, {17, 3}, {24, 3}, {25, 4}, {32, 4}, {33, 5}, {63, 5}};
        for (int[] one : cases) {
            Edge.on(Edge.made("tell(L1,0-0,1-" + one[0] + ",1;)"),
                    "lost(0, 1) = " + one[1], "lost(0, 0) = 5", "lost(0, 2) = 5");
        }
        Edge.says(16, "Returns the level, 1 to 4, or 5 if it is on all levels.");
        Edge.on(Edge.made(ROOF), "lost(0, 1) = 4", "set(4, 0, 31) = 32", "lost(0, 1) = 5", "set(4, 0, 32) = 31",
                "set(3, 0, 32) = 24", "lost(0, 1) = 3", "set(2, 0, 32) = 16", "lost(0, 1) = 2", "set(1, 0, 32) = 8",
                "lost(0, 1) = 1");
        Edge.says(16, "Throws `IndexOutOfBoundsException` if there is no such line or vertex");
        Edge.onNew("lost(0, 0) = !index");
        Edge.on(Edge.made(ROOF), "lost(0, -1) = !index", "lost(0, 0) = 5", "lost(0, 2) = 5", "lost(0, 3) = !index",
                "lost(1, 0) = !index", "lost(-1, 0) = !index", "lost(MAX, MAX) = !index", "lost(0, MIN) = !index");
    }

    private static void removed() {
        Edge.says(19, "Returns the vertices of the lower level minus those of the higher one.");
        Edge.on(Edge.made(HILLS, ROOF.replace("1", "2")), "removed(0, 0) = 0", "removed(4, 4) = 0", "removed(0, 1) = 1",
                "removed(1, 2) = 2", "removed(2, 3) = 0", "removed(3, 4) = 1", "removed(0, 4) = 4",
                "removed(0, 3) = 3");
        Edge.says(19, "removed is the same with from and to exchanged.");
        Edge.on(Edge.made(HILLS, ROOF.replace("1", "2")), "removed(1, 0) = 1", "removed(2, 1) = 2", "removed(4, 3) = 1",
                "removed(4, 0) = 4", "removed(3, 0) = 3");
        Edge.says(19, "Returns the number of vertices that are removed between two levels.");
        Edge.onNew("removed(0, 4) = 0", "removed(4, 0) = 0");
        Edge.on(Edge.made("tell(L0,0-1,1-2,0-3,1-4,0-5,1-6,0-7,1-8,0-9,1;)"), "removed(0, 1) = 8", "removed(1, 4) = 0");
    }

    private static void extent() {
        Edge.says(20, "the sum over its segments of the absolute values of the differences of both coordinates.");
        Edge.on(Edge.made("tell(L0,0-0,1;L63,63-62,63;)"), "extent(0, 0) = 1", "extent(4, 1) = 1");
        Edge.on(Edge.made("tell(L0,63-63,0;)"), "extent(0, 0) = 126");
        Edge.on(Edge.made("tell(L63,0-0,63;)"), "extent(4, 0) = 126");
        Edge.on(Edge.made("tell(L0,0-63,1-0,2-63,3-0,4-63,5-0,6-63,7-0,8-63,9;)"), "extent(0, 0) = 576",
                "extent(4, 0) = 576");
        Edge.says(20, "Returns the extent of a line on a level:");
        Edge.on(Edge.made(ROOF), "extent(0, 0) = 16", "extent(3, 0) = 16", "extent(4, 0) = 8");
        Edge.says(20, "Returns the extent.");
        Edge.on(Edge.made(HILLS, "tell(L0,0-2,1;)"), "extent(0, 0) = 22", "extent(1, 0) = 20", "extent(2, 0) = 12",
                "extent(2, 1) = 3");
    }

    private static void mostSimplified() {
        Edge.says(21, "Returns the line that loses the most vertices from level 0 to a level;");
        MapGeneralizer map = Edge.made("tell(L0,40-4,44-8,40;)", HILLS, "tell(L30,0-32,1-34,0;)");
        Edge.on(map, "mostSimplified(1) = 1", "mostSimplified(2) = 1", "mostSimplified(4) = 1", "removeLine(1) = 2",
                "mostSimplified(3) = 1", "mostSimplified(4) = 0");
        Edge.says(21, "the one with the lowest number of several.");
        Edge.on(Edge.made("tell(L0,0-5,0;L10,10-11,11-12,10;L20,20-21,21-22,20;)"), "mostSimplified(1) = 1",
                "mostSimplified(4) = 1", "removeLine(1) = 2", "mostSimplified(4) = 1");
        Edge.says(21, "Returns the number of the line.");
        Edge.on(Edge.made("tell(L0,0-5,0;L0,2-5,2;L0,4-5,4;L0,6-5,6;L0,8-5,8;)", ROOF), "mostSimplified(4) = 5");
        Edge.says(21, "Throws `NoSuchElementException` if no line loses any");
        Edge.onNew("mostSimplified(0) = !element", "mostSimplified(4) = !element");
        Edge.on(Edge.made(ROOF), "mostSimplified(0) = !element", "mostSimplified(3) = !element",
                "mostSimplified(4) = 0", "set(4, 0, 31) = 32", "mostSimplified(4) = !element");
    }

    private static void lineAt() {
        Edge.says(22, "Returns whether a position is on a line of a level.");
        Edge.on(Edge.made("tell(L0,0-63,0;L63,1-63,63;L62,63-0,63;L0,62-0,1;)"), "lineAt(0, 0, 0) = 0",
                "lineAt(0, 63, 0) = 0", "lineAt(0, 1, 0) = 0", "lineAt(0, 62, 0) = 0", "lineAt(0, 63, 1) = 1",
                "lineAt(0, 63, 63) = 1", "lineAt(0, 62, 63) = 2", "lineAt(0, 0, 63) = 2", "lineAt(0, 0, 62) = 3",
                "lineAt(4, 0, 1) = 3", "lineAt(4, 1, 1) = -1", "lineAt(0, 62, 62) = -1", "lineAt(0, -1, 0) = !argument",
                "lineAt(0, 64, 0) = !argument", "lineAt(0, 0, -1) = !argument", "lineAt(0, 63, 64) = !argument");
        Edge.says(22, "A position is on a line if it is exactly on one of its segments.");
        Edge.on(Edge.made("tell(L0,0-63,62;)"), "lineAt(0, 0, 0) = 0", "lineAt(0, 63, 62) = 0", "lineAt(0, 1, 1) = -1",
                "lineAt(0, 32, 31) = -1", "lineAt(0, 32, 32) = -1", "lineAt(0, 62, 61) = -1", "lineAt(0, 1, 0) = -1");
        Edge.on(Edge.made("tell(L20,10-26,13-30,13;)"), "lineAt(0, 18, 9) = -1", "lineAt(0, 20, 10) = 0",
                "lineAt(0, 22, 11) = 0", "lineAt(0, 23, 11) = -1", "lineAt(0, 23, 12) = -1", "lineAt(0, 26, 13) = 0",
                "lineAt(0, 28, 14) = -1", "lineAt(0, 28, 13) = 0", "lineAt(0, 30, 13) = 0", "lineAt(0, 31, 13) = -1");
        Edge.says(22, "its segments connect successive vertices.");
        Edge.on(Edge.made(ROOF), "lineAt(0, 12, 12) = 0", "lineAt(0, 16, 12) = 0", "lineAt(0, 14, 10) = -1",
                "lineAt(3, 14, 10) = -1", "lineAt(4, 14, 10) = 0", "lineAt(4, 12, 12) = -1");
        Edge.says(22, "Returns the lowest number of such a line, -1 if there is none.");
        Edge.onNew("lineAt(0, 0, 0) = -1", "lineAt(4, 63, 63) = -1");
        Edge.on(Edge.made("tell(L0,0-5,0;L0,2-5,2;L0,4-5,4;L0,6-5,6;L0,8-5,8;L10,0-11,9;)"), "lineAt(0, 3, 0) = 0",
                "lineAt(0, 3, 8) = 4", "lineAt(0, 11, 9) = 5", "lineAt(0, 3, 1) = -1");
        Edge.says(22, "Throws `IllegalArgumentException` if a number is out of range");
        Edge.onNew("lineAt(-1, 0, 0) = !argument", "lineAt(5, 0, 0) = !argument", "lineAt(0, MIN, 0) = !argument",
                "lineAt(0, 0, MAX) = !argument");
    }

    private static void refused() {
        for (int promise : new int[] {14, 15, 17, 18, 20}) {
            String[] calls = {"vertices(%s, %s)", "vertex(%s, %s, 0, true)", "", "why(%s, %s, 0)", "weight(%s, %s, 0)",
                "", "extent(%s, %s)"};
            String call = calls[promise - 14];
            Edge.says(promise, "Throws `IllegalArgumentException` if level is out of range");
            for (String level : new String[] {"-1", "5", "MIN", "MAX"}) {
                Edge.on(Edge.made(ROOF), String.format(call, level, "0") + " = !argument",
                        String.format(call, level, "1") + " = !argument");
            }
            Edge.says(promise, "Throws `IndexOutOfBoundsException` if there is no such line");
            for (String line : new String[] {"-1", "1", "MIN", "MAX"}) {
                Edge.on(Edge.made(ROOF), String.format(call, "0", line) + " = !index",
                        String.format(call, "4", line) + " = !index");
            }
            Edge.onNew(String.format(call, "0", "0") + " = !index", String.format(call, "5", "0") + " = !argument");
        }
        Edge.says(19, "Throws `IllegalArgumentException` if level is out of range");
        Edge.onNew("removed(-1, 0) = !argument", "removed(5, 0) = !argument", "removed(0, -1) = !argument",
                "removed(0, 5) = !argument", "removed(-1, -1) = !argument", "removed(5, 5) = !argument",
                "removed(0, 4) = 0");
        Edge.says(21, "Throws `IllegalArgumentException` if level is out of range");
        Edge.onNew("mostSimplified(-1) = !argument", "mostSimplified(5) = !argument");
    }
}
