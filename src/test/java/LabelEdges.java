/** Sentences about the labels of levels, promises 31 to 38, at their boundaries. */
final class LabelEdges {
    /** A line for each position of the label of a point at 30, 30: its first vertex is covered there. */
    private static final String[] BLOCKS = {"L31,31-31,40;", "L29,31-29,40;", "L29,29-29,20;", "L31,29-31,20;"};

    private LabelEdges() {
    }

    static void run() {
        shown();
        orderOfPlacing();
        coveredByPositions();
        edgeOfMap();
        coveredPoints();
        coveredLabels();
        coveredVertices();
        firstReason();
        goingOn();
        notShown();
        refusal();
        numbers();
        labelAt();
        placedShare();
        placedOn();
        refused();
    }

    private static void shown() {
        Edge.says(31, "The points whose rank is at least the least rank are shown;");
        MapGeneralizer ranks = new MapGeneralizer();
        for (int rank = 0; rank < 10; rank++) {
            Edge.make(ranks, "addPoint(" + 6 * rank + ", 5, " + rank + ", 2, 1, 0)");
        }
        for (int level = 0; level < 5; level++) {
            Edge.on(ranks, "shown(" + level + ") = " + (1023 >> level << level));
        }
        Edge.on(ranks, "set(4, 2, 9) = 4", "shown(4) = 512", "set(4, 2, 8) = 9", "shown(4) = 768", "set(1, 2, 0) = 1",
                "shown(1) = 1023", "shown(0) = 1023");
        for (int rank = 4; rank <= 6; rank++) {
            Edge.on(Edge.made("addPoint(5, 5, " + rank + ", 2, 1, 0)", "set(4, 2, 5)"),
                    "shown(4) = " + (rank < 5 ? 0 : 1), "labels(4) = " + (rank < 5 ? 0 : 1));
        }
        Edge.says(31, "on level 0, all points are.");
        MapGeneralizer low = new MapGeneralizer();
        for (int point = 0; point < 12; point++) {
            Edge.make(low, "addPoint(" + 4 * point + ", 5, 0, 2, 1, 0)");
            Edge.on(low, "shown(0) = " + ((2 << point) - 1), "shown(1) = 0");
        }
        Edge.says(31, "Returns the points that are shown.");
        Edge.onNew("shown(0) = 0", "shown(4) = 0", "addPoint(5, 5, 9, 2, 1, 0) = 0", "shown(4) = 1",
                "addPoint(9, 5, 9, 2, 1, 0) = 1", "shown(4) = 3", "removePoint(0) = 1", "shown(4) = 1");
        Edge.says(31, "Returns the set of points.");
        Edge.on(low, "removePoint(11) = 11", "addPoint(44, 5, 9, 2, 1, 0) = 11", "shown(4) = 2048", "shown(0) = 4095");
    }

    private static void orderOfPlacing() {
        Edge.says(32, "Their labels are placed one after the other, by descending ranks, and of equal ones by ascending"
                + " numbers.");
        int[][] ranks = {{5, 5}, {5, 4}, {5, 6}, {0, 9}, {9, 0}, {9, 9}, {0, 0}};
        for (int[] rank : ranks) {
            boolean isFirstBefore = rank[0] >= rank[1];
            Edge.on(Edge.made("addPoint(30, 30, " + rank[0] + ", 4, 2, 0)",
                    "addPoint(35, 30, " + rank[1] + ", 4, 2, 1)"),
                    "position(0, 0) = " + (isFirstBefore ? 0 : 1), "position(0, 1) = " + (isFirstBefore ? 2 : 1),
                    "refusal(0, 0, 0) = " + (isFirstBefore ? 0 : 3), "refusal(0, 1, 1) = " + (isFirstBefore ? 3 : 0));
        }
        Edge.on(Edge.made("addPoint(30, 30, 5, 4, 2, 0)", "addPoint(35, 30, 6, 4, 2, 1)",
                "addPoint(30, 33, 7, 4, 1, 3)"),
                "position(0, 2) = 3", "position(0, 1) = 2", "position(0, 0) = 1", "refusal(0, 1, 1) = 3",
                "refusal(0, 0, 0) = 3");
    }

    /** The corners of a rectangle are covered, and the coordinates beside them are not. */
    private static void covers(String width, int position, int left, int right, int low, int high) {
        MapGeneralizer map = Edge.made("addPoint(30, 30, 5, " + width + ", " + position + ")");
        Edge.on(map, "position(0, 0) = " + position);
        int[][] inside = {{left, low}, {left, high}, {right, low}, {right, high}};
        for (int[] at : inside) {
            Edge.on(map, "labelAt(0, " + at[0] + ", " + at[1] + ") = 0");
        }
        int[][] outside = {{left - 1, low}, {left, low - 1}, {left - 1, high}, {left, high + 1}, {right + 1, low},
            {right, low - 1}, {right + 1, high}, {right, high + 1}};
        for (int[] at : outside) {
            Edge.on(map, "labelAt(0, " + at[0] + ", " + at[1] + ") = -1");
        }
        Edge.on(map, "covered(0) = " + (right - left + 1) * (high - low + 1), "labelAt(0, 30, 30) = -1");
    }

    private static void coveredByPositions() {
        Edge.says(35, "A label has four positions, of which 0 covers the coordinates from x + 1 to x + width and from"
                + " y + 1 to y + height, where x and y are the coordinates of its point;");
        covers("2, 1", 0, 31, 32, 31, 31);
        covers("12, 4", 0, 31, 42, 31, 34);
        covers("3, 2", 0, 31, 33, 31, 32);
        Edge.says(35, "1, from x - width to x - 1 and from y + 1 to y + height;");
        covers("2, 1", 1, 28, 29, 31, 31);
        covers("12, 4", 1, 18, 29, 31, 34);
        covers("11, 3", 1, 19, 29, 31, 33);
        Edge.says(35, "2, from x - width to x - 1 and from y - height to y - 1;");
        covers("2, 1", 2, 28, 29, 29, 29);
        covers("12, 4", 2, 18, 29, 26, 29);
        covers("3, 3", 2, 27, 29, 27, 29);
        Edge.says(35, "and 3, from x + 1 to x + width and from y - height to y - 1.");
        covers("2, 1", 3, 31, 32, 29, 29);
        covers("12, 4", 3, 31, 42, 26, 29);
        covers("11, 2", 3, 31, 41, 28, 29);
    }

    private static void edgeOfMap() {
        Edge.says(33, "A position is refused for the first of these reasons that applies: 1, it covers coordinates"
                + " that are not from 0 to 63;");
        for (int[] size : new int[][] {{2, 1}, {12, 4}, {7, 3}}) {
            int width = size[0];
            int height = size[1];
            atEdge(width, height, 0, 62 - width, 62 - height, 1, 1);
            atEdge(width, height, 1, width + 1, 62 - height, -1, 1);
            atEdge(width, height, 2, width + 1, height + 1, -1, -1);
            atEdge(width, height, 3, 62 - width, height + 1, 1, -1);
        }
        Edge.on(Edge.made("addPoint(0, 0, 5, 2, 1, 1)", "addPoint(63, 0, 5, 2, 1, 2)", "addPoint(63, 63, 5, 2, 1, 3)",
                "addPoint(0, 63, 5, 2, 1, 0)"), "position(0, 0) = 0", "position(0, 1) = 1", "position(0, 2) = 2",
                "position(0, 3) = 3");
    }

    /** From a place that is one further in than need be, to the last one, and one beyond, in x and in y. */
    private static void atEdge(int width, int height, int position, int x, int y, int stepX, int stepY) {
        String label = ", 5, " + width + ", " + height + ", " + position + ")";
        for (int step = 0; step < 3; step++) {
            String want = "refusal(0, 0, " + position + ") = " + (step < 2 ? 0 : 1);
            Edge.on(Edge.made("addPoint(" + (x + step * stepX) + ", " + y + label), want);
            Edge.on(Edge.made("addPoint(" + x + ", " + (y + step * stepY) + label), want);
            Edge.on(Edge.made("addPoint(" + (x + step * stepX) + ", " + (y + step * stepY) + label), want);
        }
    }

    private static void coveredPoints() {
        Edge.says(33, "2, it covers a point that is shown;");
        String[] inside = {"31, 31", "34, 31", "31, 32", "34, 32", "33, 31"};
        for (String at : inside) {
            Edge.on(Edge.made("addPoint(30, 30, 9, 4, 2, 0)", "addPoint(" + at + ", 3, 2, 1, 0)"),
                    "refusal(0, 0, 0) = 2",
                    "refusal(0, 0, 1) = 0", "position(0, 0) = 1", "refusal(3, 0, 0) = 2", "refusal(4, 0, 0) = 0",
                    "position(4, 0) = 0");
        }
        Edge.on(Edge.made("addPoint(34, 32, 3, 2, 1, 0)", "addPoint(30, 30, 2, 4, 2, 0)"), "refusal(0, 1, 0) = 2",
                "removePoint(0) = 1", "refusal(0, 0, 0) = 0");
        String[] outside = {"30, 31", "31, 30", "35, 31", "34, 30", "30, 32", "31, 33", "35, 32", "34, 33"};
        for (String at : outside) {
            Edge.on(Edge.made("addPoint(30, 30, 9, 4, 2, 0)", "addPoint(" + at + ", 3, 2, 1, 0)"),
                    "refusal(0, 0, 0) = 0", "position(0, 0) = 0");
        }
        String[][] others = {{"1", "29, 31", "26, 32", "25, 31", "29, 33"}, {"2", "29, 29", "26, 28", "25, 29",
                "29, 27"},
            {"3", "31, 29", "34, 28", "35, 29", "31, 27"}};
        for (String[] one : others) {
            for (int i = 1; i < one.length; i++) {
                Edge.on(Edge.made("addPoint(30, 30, 9, 4, 2, 0)", "addPoint(" + one[i] + ", 3, 2, 1, 0)"),
                        "refusal(0, 0, " + one[0] + ") = " + (i < 3 ? 2 : 0));
            }
        }
        Edge.says(33, "Points that are not shown do not matter for labels, and segments between vertices do not,"
                + " either;");
        Edge.on(Edge.made("addPoint(30, 30, 9, 4, 2, 0)", "addPoint(31, 31, 0, 12, 4, 2)"), "refusal(0, 0, 0) = 2",
                "refusal(1, 0, 0) = 0", "labels(1) = 1", "covered(1) = 8");
        Edge.on(Edge.made("tell(L20,31-46,31;)", "addPoint(30, 30, 9, 4, 2, 0)"), "refusal(0, 0, 0) = 0",
                "position(0, 0) = 0", "refusal(0, 0, 1) = 0");
    }

    private static void coveredLabels() {
        Edge.says(33, "3, it covers coordinates that a label placed before covers;");
        String first = "addPoint(30, 30, 9, 4, 2, 0)";
        String[] overlapping = {"35, 33, 5, 4, 2, 2", "26, 33, 5, 5, 2, 3", "35, 29, 5, 4, 2, 1", "26, 30, 5, 5, 1, 0",
            "30, 34, 5, 12, 4, 3", "36, 35, 5, 12, 4, 2", "33, 33, 5, 2, 1, 2", "38, 33, 5, 4, 1, 2"};
        for (String second : overlapping) {
            String corner = second.substring(second.length() - 1);
            Edge.on(Edge.made(first, "addPoint(" + second + ")"), "position(0, 0) = 0",
                    "refusal(0, 1, " + corner + ") = 3");
        }
        String[] beside = {"39, 33, 5, 4, 2, 2", "25, 33, 5, 5, 2, 3", "39, 29, 5, 4, 2, 1", "25, 30, 5, 5, 2, 0",
            "35, 35, 5, 4, 2, 2", "26, 35, 5, 5, 2, 3", "35, 28, 5, 4, 2, 1", "26, 27, 5, 5, 2, 0"};
        for (String second : beside) {
            String corner = second.substring(second.length() - 1);
            Edge.on(Edge.made(first, "addPoint(" + second + ")"), "position(0, 0) = 0",
                    "refusal(0, 1, " + corner + ") = 0", "position(0, 1) = " + corner);
        }
        Edge.on(Edge.made("addPoint(30, 30, 5, 4, 2, 0)", "addPoint(37, 33, 5, 4, 2, 2)"), "refusal(0, 0, 0) = 0",
                "refusal(0, 1, 2) = 3", "position(0, 1) = 3");
        Edge.says(33, "refusal tells of labels that were placed before, also for positions behind the one that was"
                + " taken.");
        Edge.on(Edge.made(first, "addPoint(35, 33, 5, 4, 2, 3)"), "position(0, 1) = 3", "refusal(0, 1, 2) = 3",
                "refusal(0, 1, 3) = 0", "refusal(0, 1, 0) = 0", "refusal(0, 0, 0) = 0", "refusal(0, 0, 3) = 0");
    }

    private static void coveredVertices() {
        Edge.says(33, "4, it covers a vertex of a line of this level.");
        String[] inside = {"L31,31-31,0;", "L34,31-34,0;", "L31,32-31,50;", "L34,32-34,50;", "L0,33-33,32;"};
        for (String line : inside) {
            Edge.on(Edge.made("tell(" + line + ")", "addPoint(30, 30, 9, 4, 2, 0)"), "refusal(0, 0, 0) = 4",
                    "position(0, 0) = 1", "removeLine(0) = 0", "refusal(0, 0, 0) = 0", "position(0, 0) = 0");
        }
        String[] outside = {"L30,31-0,50;", "L31,33-31,50;", "L35,31-50,31;", "L34,30-34,0;", "L35,32-50,32;",
            "L30,32-0,50;", "L34,33-34,50;", "L31,30-32,0;"};
        for (String line : outside) {
            Edge.on(Edge.made("tell(" + line + ")", "addPoint(30, 30, 9, 4, 2, 0)"), "refusal(0, 0, 0) = 0");
        }
        Edge.on(Edge.made("tell(L20,31-33,32-46,31;)", "addPoint(30, 30, 9, 4, 2, 0)"), "weight(0, 0, 1) = 26",
                "refusal(3, 0, 0) = 4", "position(3, 0) = 1", "refusal(4, 0, 0) = 0", "position(4, 0) = 0",
                "placedOn(0) = 31");
        Edge.on(Edge.made("tell(L5,5-9,5-31,31;)", "removeLine(0)", "tell(L5,5-9,5;)", "addPoint(30, 30, 9, 4, 2, 0)"),
                "refusal(0, 0, 0) = 0");
        Edge.on(Edge.made("addPoint(31, 31, 9, 2, 1, 0)", "removePoint(0)", "addPoint(30, 30, 9, 4, 2, 0)"),
                "refusal(0, 0, 0) = 0", "labels(0) = 1");
        MapGeneralizer sixth = Edge.made("tell(L0,0-5,0;L0,2-5,2;L0,4-5,4;L0,6-5,6;L0,8-5,8;)", "tell(L40,60-31,31;)",
                "addPoint(30, 30, 9, 4, 2, 0)");
        Edge.on(sixth, "refusal(0, 0, 0) = 4", "removeLine(5) = 5", "refusal(0, 0, 0) = 0");
        Edge.on(Edge.made("tell(L0,0-1,1-2,0-3,1-4,0-5,1-6,0-7,1-8,0-34,32;)", "addPoint(30, 30, 9, 4, 2, 0)"),
                "refusal(0, 0, 0) = 4");
    }

    private static void firstReason() {
        Edge.says(33, "Returns the reason, 1 to 4, or 0 if it is not refused.");
        Edge.on(Edge.made("addPoint(60, 30, 5, 4, 2, 0)", "addPoint(61, 31, 5, 2, 1, 1)"), "refusal(0, 0, 0) = 1");
        MapGeneralizer map = Edge.made("tell(L34,32-34,40;)", "addPoint(29, 33, 9, 4, 2, 3)",
                "addPoint(30, 30, 5, 4, 2, 0)", "addPoint(34, 31, 0, 2, 1, 0)");
        Edge.on(map, "refusal(0, 1, 0) = 2", "refusal(1, 1, 0) = 3", "removePoint(0) = 2", "refusal(1, 0, 0) = 4",
                "removeLine(0) = 0", "refusal(1, 0, 0) = 0", "refusal(0, 0, 0) = 2");
    }

    /** For each corner and each set of positions that are refused, the first one from the corner that is not. */
    private static void goingOn() {
        Edge.says(32, "The label is placed at the first position that is not refused, beginning with the corner of its"
                + " point, and then going on with the next higher number, after 3 with 0;");
        for (int free = 1; free < 16; free++) {
            MapGeneralizer map = new MapGeneralizer();
            for (int position = 0; position < 4; position++) {
                boolean isFree = (free >> position & 1) == 1;
                Edge.make(map, isFree ? "count(0)" : "tell(" + BLOCKS[position] + ")");
            }
            Edge.make(map, "addPoint(30, 30, 5, 2, 1, 0)");
            for (int corner = 0; corner < 4; corner++) {
                int place = corner;
                while ((free >> place & 1) == 0) {
                    place = place == 3 ? 0 : place + 1;
                }
                Edge.make(map, "setCorner(0, " + corner + ")");
                Edge.on(map, "position(0, 0) = " + place, "refusal(0, 0, " + place + ") = 0",
                        "refusal(0, 0, " + corner + ") = " + (place == corner ? 0 : 4));
            }
        }
        Edge.on(Edge.made("tell(" + BLOCKS[3] + ")", "addPoint(30, 30, 5, 2, 1, 3)"), "position(0, 0) = 0");
        Edge.on(Edge.made("tell(" + BLOCKS[3] + BLOCKS[0] + ")", "addPoint(30, 30, 5, 2, 1, 3)"), "position(0, 0) = 1");
        Edge.on(Edge.made("tell(" + BLOCKS[2] + BLOCKS[3] + BLOCKS[0] + ")", "addPoint(30, 30, 5, 2, 1, 2)"),
                "position(0, 0) = 1");
        Edge.on(Edge.made("tell(" + BLOCKS[1] + BLOCKS[2] + BLOCKS[3] + ")", "addPoint(30, 30, 5, 2, 1, 1)"),
                "position(0, 0) = 0");
        Edge.says(32, "or it is not placed, if all are refused.");
        MapGeneralizer all = Edge.made("tell(" + String.join("", BLOCKS) + ")", "addPoint(30, 30, 5, 2, 1, 0)");
        for (int corner = 0; corner < 4; corner++) {
            Edge.make(all, "setCorner(0, " + corner + ")");
            Edge.on(all, "position(0, 0) = -1", "refusal(0, 0, " + corner + ") = 4", "labels(0) = 0", "covered(0) = 0",
                    "labelAt(0, 31, 31) = -1", "placedOn(0) = 0");
        }
        Edge.on(all, "removeLine(3) = 3", "position(0, 0) = 3");
    }

    private static void notShown() {
        Edge.says(32, "Returns the position, 0 to 3, or -1 if it is not placed or the point is not shown.");
        for (int corner = 0; corner < 4; corner++) {
            Edge.on(Edge.made("addPoint(30, 30, 4, 2, 1, " + corner + ")"), "position(0, 0) = " + corner,
                    "position(4, 0) = " + corner, "set(4, 2, 5) = 4", "position(4, 0) = -1",
                    "position(3, 0) = " + corner);
        }
        Edge.says(32, "Returns the position of the label of a point.");
        Edge.on(Edge.made("addPoint(30, 30, 4, 2, 1, 2)", "addPoint(40, 30, 4, 2, 1, 3)"), "position(0, 0) = 2",
                "position(0, 1) = 3", "removePoint(0) = 1", "position(0, 0) = 3", "position(0, 1) = !index");
    }

    private static void refusal() {
        Edge.says(33, "Returns why a position of the label of a point that is shown is refused, when its label is"
                + " placed.");
        Edge.on(Edge.made("addPoint(0, 30, 5, 2, 1, 0)"), "refusal(0, 0, 0) = 0", "refusal(0, 0, 1) = 1",
                "refusal(0, 0, 2) = 1", "refusal(0, 0, 3) = 0");
        Edge.says(33, "Throws `IllegalStateException` if the point is not shown");
        Edge.on(Edge.made("addPoint(30, 30, 2, 2, 1, 0)"), "refusal(0, 0, 0) = 0", "refusal(2, 0, 0) = 0",
                "refusal(3, 0, 0) = !state", "refusal(3, 0, 4) = !argument", "refusal(3, 1, 0) = !index",
                "set(3, 2, 2) = 3", "refusal(3, 0, 0) = 0");
        Edge.says(33, "Throws `IllegalArgumentException` if level or position is out of range");
        Edge.on(Edge.made("addPoint(30, 30, 0, 2, 1, 0)"), "refusal(-1, 0, 0) = !argument",
                "refusal(5, 0, 0) = !argument",
                "refusal(0, 0, -1) = !argument", "refusal(0, 0, 4) = !argument", "refusal(0, 1, 4) = !argument",
                "refusal(1, 1, 4) = !argument", "refusal(5, 1, 0) = !argument", "refusal(0, 0, 3) = 0");
        Edge.says(33, "Throws `IndexOutOfBoundsException` if there is no such point");
        Edge.onNew("refusal(0, 0, 0) = !index", "refusal(0, 0, 4) = !argument", "addPoint(30, 30, 0, 2, 1, 0) = 0",
                "refusal(0, 1, 0) = !index", "refusal(0, -1, 0) = !index", "refusal(4, 1, 0) = !index",
                "refusal(4, 0, 0) = !state");
    }

    private static void numbers() {
        MapGeneralizer map = new MapGeneralizer();
        for (int point = 0; point < 12; point++) {
            Edge.make(map, "addPoint(" + 13 * (point % 4) + ", " + 10 * (point / 4) + ", " + point % 5 + ", 12, 4, 0)");
        }
        Edge.says(34, "Returns the number of labels that are placed.");
        Edge.on(map, "labels(0) = 12", "labels(1) = 9", "labels(4) = 2");
        Edge.says(34, "Returns the number.");
        Edge.onNew("labels(0) = 0", "labels(4) = 0", "addPoint(5, 5, 0, 2, 1, 0) = 0", "labels(0) = 1",
                "labels(1) = 0");
        Edge.on(Edge.made("tell(" + String.join("", BLOCKS) + ")", "addPoint(30, 30, 9, 2, 1, 0)",
                "addPoint(50, 50, 9, 2, 1, 0)"), "labels(0) = 1", "shown(0) = 3", "placedShare(0) = 0.5");
        Edge.says(36, "Returns the number of coordinates that labels cover.");
        Edge.on(map, "covered(0) = 576", "covered(1) = 432", "covered(4) = 96");
        Edge.says(36, "Returns the number.");
        Edge.onNew("covered(0) = 0", "covered(4) = 0", "addPoint(5, 5, 0, 2, 1, 0) = 0", "covered(0) = 2",
                "covered(1) = 0", "addPoint(15, 5, 0, 12, 4, 0) = 1", "covered(0) = 50");
    }

    private static void labelAt() {
        Edge.says(35, "Returns the point whose label covers coordinates.");
        Edge.on(Edge.made("addPoint(2, 1, 5, 2, 1, 2)", "addPoint(61, 62, 5, 2, 1, 0)", "addPoint(61, 1, 5, 2, 1, 3)",
                "addPoint(2, 62, 5, 2, 1, 1)"), "labelAt(0, 0, 0) = 0", "labelAt(0, 1, 0) = 0", "labelAt(0, 2, 0) = -1",
                "labelAt(0, 0, 1) = -1", "labelAt(0, 63, 63) = 1", "labelAt(0, 62, 63) = 1", "labelAt(0, 61, 63) = -1",
                "labelAt(0, 63, 0) = 2", "labelAt(0, 0, 63) = 3", "labelAt(0, 64, 63) = !argument",
                "labelAt(0, 63, 64) = !argument", "labelAt(0, -1, 0) = !argument", "labelAt(0, 0, -1) = !argument");
        Edge.says(35, "Returns the number of the point, -1 if there is none.");
        Edge.onNew("labelAt(0, 0, 0) = -1", "labelAt(4, 63, 63) = -1", "addPoint(5, 5, 3, 2, 1, 0) = 0",
                "labelAt(3, 6, 6) = 0", "labelAt(3, 7, 6) = 0", "labelAt(4, 6, 6) = -1", "labelAt(3, 8, 6) = -1");
        MapGeneralizer many = new MapGeneralizer();
        for (int point = 0; point < 12; point++) {
            Edge.make(many, "addPoint(" + 4 * point + ", 5, 5, 2, 1, 0)");
        }
        Edge.on(many, "labelAt(0, 45, 6) = 11", "labelAt(0, 46, 6) = 11", "labelAt(0, 47, 6) = -1",
                "labelAt(0, 1, 6) = 0");
        Edge.says(35, "Throws `IllegalArgumentException` if a number is out of range");
        Edge.onNew("labelAt(-1, 0, 0) = !argument", "labelAt(5, 0, 0) = !argument", "labelAt(0, MIN, 0) = !argument",
                "labelAt(0, 0, MAX) = !argument");
    }

    private static void placedShare() {
        Edge.says(37, "Returns the share of the points that are shown whose labels are placed: their number divided"
                + " by the number of points that are shown, both converted to double.");
        String blocks = "tell(" + String.join("", BLOCKS) + ")";
        MapGeneralizer map = Edge.made(blocks, "addPoint(30, 30, 9, 2, 1, 0)");
        Edge.on(map, "placedShare(0) = 0.0");
        for (int point = 1; point < 12; point++) {
            Edge.make(map, "addPoint(" + 4 * point + ", 5, 5, 2, 1, 0)");
            Edge.on(map, "placedShare(0) = " + (double) point / (double) (point + 1));
        }
        Edge.on(map, "set(4, 2, 6) = 4", "placedShare(4) = 0.0", "removeLine(0) = 3", "placedShare(4) = 1.0",
                "placedShare(0) = 1.0");
        Edge.says(37, "Returns the share.");
        Edge.onNew("addPoint(30, 30, 2, 2, 1, 0) = 0", "placedShare(0) = 1.0", "placedShare(2) = 1.0",
                "placedShare(3) = !arithmetic");
        Edge.says(37, "Throws `ArithmeticException` if no point is shown");
        Edge.onNew("placedShare(0) = !arithmetic", "placedShare(4) = !arithmetic", "placedShare(5) = !argument",
                "addPoint(30, 30, 0, 2, 1, 0) = 0", "placedShare(0) = 1.0", "placedShare(1) = !arithmetic",
                "set(1, 2, 0) = 1", "placedShare(1) = 1.0", "removePoint(0) = 0", "placedShare(0) = !arithmetic");
        Edge.says(37, "Throws `IllegalArgumentException` if level is out of range");
        Edge.onNew("placedShare(-1) = !argument", "placedShare(5) = !argument", "placedShare(MIN) = !argument");
    }

    private static void placedOn() {
        Edge.says(38, "Returns the levels on which the label of a point is placed.");
        for (int rank = 0; rank < 6; rank++) {
            Edge.on(Edge.made("addPoint(30, 30, " + rank + ", 2, 1, 0)"), "placedOn(0) = " + Math.min(31,
                    (2 << rank) - 1));
        }
        Edge.says(38, "Returns the set of levels.");
        Edge.on(Edge.made("tell(L0,2-1,1-4,1;)", "addPoint(0, 0, 9, 2, 1, 0)"), "placedOn(0) = 30", "set(1, 0, 0) = 8",
                "placedOn(0) = 28", "setCorner(0, 3) = 0", "placedOn(0) = 28");
        Edge.on(Edge.made("tell(" + String.join("", BLOCKS) + ")", "addPoint(30, 30, 9, 2, 1, 0)"), "placedOn(0) = 0",
                "removeLine(0) = 3", "placedOn(0) = 31");
        Edge.says(38, "Throws `IndexOutOfBoundsException` if there is no such point");
        Edge.onNew("placedOn(0) = !index", "placedOn(-1) = !index", "addPoint(30, 30, 9, 2, 1, 0) = 0",
                "placedOn(0) = 31", "placedOn(1) = !index", "placedOn(MAX) = !index", "placedOn(MIN) = !index");
    }

    private static void refused() {
        String[] calls = {"shown(%s)", "position(%s, 0)", "", "labels(%s)", "", "covered(%s)"};
        for (int promise : new int[] {31, 32, 34, 36}) {
            Edge.says(promise, "Throws `IllegalArgumentException` if level is out of range");
            for (String level : new String[] {"-1", "5", "MIN", "MAX"}) {
                Edge.onNew(String.format(calls[promise - 31], level) + " = !argument");
            }
        }
        Edge.says(32, "Throws `IndexOutOfBoundsException` if there is no such point");
        Edge.onNew("position(0, 0) = !index", "position(5, 0) = !argument", "addPoint(30, 30, 0, 2, 1, 0) = 0",
                "position(0, 1) = !index", "position(4, 1) = !index", "position(0, -1) = !index", "position(4, 0) = -1",
                "position(-1, -1) = !argument");
    }
}
