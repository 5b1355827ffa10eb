import java.util.Arrays;
import java.util.TreeSet;

/** The smallest and the largest value of each argument, those just inside, and those beyond. */
final class ArgumentEdges {
    private static final String ARGUMENT = "!argument";
    private static final String INDEX = "!index";
    private static final String LEVEL = "`level`: the level, 0 to 4";
    private static final String LINE = "`line`: the number of the line";
    private static final String VERTEX = "`index`: the number of the vertex on this level, from 0";
    private static final String POINT = "`point`: the number of the point";
    private static final String PARCEL = "`parcel`: the number of the parcel, 0 to 15";

    private ArgumentEdges() {
    }

    static void run() {
        ofChanges();
        ofPaint();
        ofSettings();
        ofMap();
        ofLines();
        ofWeights();
        ofParcels();
        ofBorders();
        ofLabels();
        ofTexts();
    }

    /**
     * Makes the call on the small sample with each value in the place of the question mark: inside,
     * the answers are those for the smallest value and the one behind it, and for the largest one
     * and the one before it (in ascending order, each once).
     */
    private static void range(int promise, String sentence, String call, int least, int most, String outside,
            Object... wants) {
        Edge.says(promise, sentence);
        int next = 0;
        for (int value : new TreeSet<>(Arrays.asList(least, least + 1, most - 1, most))) {
            check(call, String.valueOf(value), String.valueOf(wants[next]));
            next++;
        }
        Edge.due("each answer was looked at", wants.length, next);
        for (String beyond : new String[] {"" + (least - 1), "" + (most + 1), "MIN", "MAX"}) {
            check(call, beyond, outside);
        }
    }

    private static void check(String call, String value, String want) {
        Edge.on(Sample.small(), call.replace("?", value) + " = " + want);
    }

    private static void ofChanges() {
        range(3, "`x`: the coordinate x", "addPoint(?, 50, 5, 5, 2, 1)", 0, 63, ARGUMENT, 3, 3, 3, 3);
        range(3, "`y`: the coordinate y", "addPoint(48, ?, 5, 5, 2, 1)", 0, 63, ARGUMENT, 3, 3, 3, 3);
        range(3, "`rank`: the rank", "addPoint(48, 50, ?, 5, 2, 1)", 0, 9, ARGUMENT, 3, 3, 3, 3);
        range(3, "`width`: the width of its label", "addPoint(48, 50, 5, ?, 2, 1)", 2, 12, ARGUMENT, 3, 3, 3, 3);
        range(3, "`height`: the height of its label", "addPoint(48, 50, 5, 5, ?, 1)", 1, 4, ARGUMENT, 3, 3, 3, 3);
        range(3, "`corner`: the corner", "addPoint(48, 50, 5, 5, 2, ?)", 0, 3, ARGUMENT, 3, 3, 3, 3);
        range(4, LINE, "removeLine(?)", 0, 2, INDEX, 2, 2, 2);
        range(5, POINT, "removePoint(?)", 0, 2, INDEX, 2, 2, 2);
        range(6, POINT, "setCorner(?, 2)", 0, 2, INDEX, 0, 3, 1);
        range(6, "`corner`: the corner, 0 to 3", "setCorner(1, ?)", 0, 3, ARGUMENT, 3, 3, 3, 3);
        range(8, PARCEL, "setClass(?, 2)", 0, 15, INDEX, 0, 0, 0, 3);
        range(8, "`kind`: the class, 0 to 3", "setClass(2, ?)", 0, 3, ARGUMENT, 1, 1, 1, 1);
    }

    private static void ofPaint() {
        range(7, "`column`: the first column", "paint(?, 0, 1, 1, 15)", 0, 7, ARGUMENT, 2, 2, 2, 2);
        range(7, "`row`: the first row", "paint(7, ?, 1, 1, 15)", 0, 7, ARGUMENT, 2, 2, 2, 1);
        range(7, "`width`: the number of columns", "paint(0, 0, ?, 1, 15)", 1, 8, ARGUMENT, 2, 3, 8, 9);
        range(7, "`width`: the number of columns", "paint(5, 0, ?, 1, 15)", 1, 3, ARGUMENT, 2, 3, 4);
        range(7, "`height`: the number of rows", "paint(0, 0, 1, ?, 15)", 1, 8, ARGUMENT, 2, 3, 8, 9);
        range(7, "`height`: the number of rows", "paint(0, 6, 1, ?, 15)", 1, 2, ARGUMENT, 2, 3);
        range(7, "`parcel`: the number of the parcel, or -1 for none", "paint(0, 0, 1, 1, ?)", -1, 15, ARGUMENT,
                57, 1, 1, 2);
    }

    private static void ofSettings() {
        range(10, "`setting`: the setting, 0 to 2", "set(1, ?, 1)", 0, 2, ARGUMENT, 8, 1, 1);
        range(11, LEVEL, "setting(?, 0)", 0, 4, ARGUMENT, 0, 8, 24, 32);
        range(11, "`setting`: the setting, 0 to 2", "setting(4, ?)", 0, 2, ARGUMENT, 32, 4, 4);
        Edge.says(10, "`level`: the level, 1 to 4");
        Edge.onNew("set(1, 0, 16) = 8", "set(1, 1, 0) = 1", "set(1, 2, 2) = 1");
        Edge.onNew("set(2, 0, 24) = 16", "set(2, 1, 3) = 2", "set(2, 2, 1) = 2");
        Edge.onNew("set(3, 0, 32) = 24", "set(3, 1, 4) = 3", "set(3, 2, 2) = 3");
        Edge.onNew("set(4, 0, 33) = 32", "set(4, 1, 5) = 4", "set(4, 2, 9) = 4");
        for (String level : new String[] {"-1", "0", "5", "MIN", "MAX"}) {
            Edge.onNew("set(" + level + ", 0, 0) = !argument", "set(" + level + ", 1, 1) = !argument",
                    "set(" + level + ", 2, 9) = !argument");
        }
    }

    private static void ofMap() {
        range(12, "`what`: 0 for lines, 1 for points, 2 for parcels with an area greater than 0, 3 for fields without"
                + " a parcel, 4 for all vertices", "count(?)", 0, 4, ARGUMENT, 3, 3, 56, 10);
        range(13, POINT, "point(?, 2)", 0, 2, INDEX, 0, 3, 9);
        range(13, "`what`: 0 and 1 for the coordinates x and y, 2 for the rank, 3 and 4 for the width and the height of"
                + " its label, 5 for the corner", "point(1, ?)", 0, 5, ARGUMENT, 50, 20, 1, 3);
    }

    private static void ofLines() {
        range(14, LEVEL, "vertices(?, 0)", 0, 4, ARGUMENT, 5, 4, 2, 2);
        range(14, LINE, "vertices(0, ?)", 0, 2, INDEX, 5, 2, 3);
        range(15, LEVEL, "vertex(?, 0, 1, false)", 0, 4, ARGUMENT, 4, 8, 12, 12);
        range(15, LINE, "vertex(0, ?, 1, true)", 0, 2, INDEX, 11, 3, 44);
        range(15, VERTEX, "vertex(0, 0, ?, false)", 0, 4, INDEX, 0, 4, 9, 12);
        range(15, VERTEX, "vertex(1, 0, ?, true)", 0, 3, INDEX, 10, 10, 14, 10);
        range(15, VERTEX, "vertex(4, 0, ?, false)", 0, 1, INDEX, 0, 12);
        range(16, LINE, "lost(?, 1)", 0, 2, INDEX, 1, 5, 2);
        range(16, "`index`: the number of the vertex on level 0, from 0", "lost(0, ?)", 0, 4, INDEX, 5, 1, 2, 5);
        range(16, "`index`: the number of the vertex on level 0, from 0", "lost(1, ?)", 0, 1, INDEX, 5, 5);
        range(20, LEVEL, "extent(?, 0)", 0, 4, ARGUMENT, 22, 20, 12, 12);
        range(20, LINE, "extent(0, ?)", 0, 2, INDEX, 22, 9, 12);
        range(21, LEVEL, "mostSimplified(?)", 0, 4, ARGUMENT, "!element", 0, 0, 0);
        range(22, LEVEL, "lineAt(?, 4, 11)", 0, 4, ARGUMENT, 0, -1, -1, -1);
        range(22, "`x`: the coordinate x", "lineAt(0, ?, 10)", 0, 63, ARGUMENT, 0, -1, -1, -1);
        range(22, "`y`: the coordinate y", "lineAt(0, 20, ?)", 0, 63, ARGUMENT, 1, -1, -1, -1);
    }

    private static void ofWeights() {
        range(17, LEVEL, "why(?, 0, 1)", 0, 4, ARGUMENT, 2, 2, 1, 1);
        range(17, LINE, "why(0, ?, 1)", 0, 2, INDEX, 2, 1, 2);
        range(17, VERTEX, "why(0, 0, ?)", 0, 4, INDEX, 1, 2, 2, 1);
        range(17, VERTEX, "why(1, 0, ?)", 0, 3, INDEX, 1, 2, 2, 1);
        range(18, LEVEL, "weight(?, 0, 1)", 0, 4, ARGUMENT, 8, 32, -1, -1);
        range(18, LINE, "weight(0, ?, 1)", 0, 2, INDEX, 8, -1, 16);
        range(18, VERTEX, "weight(0, 0, ?)", 0, 4, INDEX, -1, 8, 16, -1);
        range(18, VERTEX, "weight(1, 0, ?)", 0, 3, INDEX, -1, 32, 16, -1);
        range(19, "`from`: the one level", "removed(?, 0)", 0, 4, ARGUMENT, 0, 1, 4, 4);
        range(19, "`to`: the other level", "removed(0, ?)", 0, 4, ARGUMENT, 0, 1, 4, 4);
    }

    private static void ofParcels() {
        range(23, LEVEL, "parcelAt(?, 0, 0)", 0, 4, ARGUMENT, 0, 0, 1, 2);
        range(23, "`column`: the column", "parcelAt(0, ?, 0)", 0, 7, ARGUMENT, 0, 1, 2, -1);
        range(23, "`row`: the row", "parcelAt(0, 7, ?)", 0, 7, ARGUMENT, -1, -1, -1, 15);
        range(24, LEVEL, "area(?, 1)", 0, 4, ARGUMENT, 2, 2, 3, 0);
        range(24, PARCEL, "area(0, ?)", 0, 15, INDEX, 1, 2, 0, 1);
        range(27, LEVEL, "became(?, 0)", 0, 4, ARGUMENT, 0, 0, 1, 2);
        range(27, PARCEL, "became(0, ?)", 0, 15, INDEX, 0, 1, "!element", 15);
        range(28, LEVEL, "parcels(?, -1)", 0, 4, ARGUMENT, 4, 4, 3, 2);
        range(28, "`kind`: the class, or -1 for all classes", "parcels(0, ?)", -1, 3, ARGUMENT, 4, 2, 0, 1);
        range(29, LEVEL, "leftOver(?)", 0, 4, ARGUMENT, 0, 0, 1, 1);
        range(30, LEVEL, "outline(?, 0)", 0, 4, ARGUMENT, 4, 4, 4, 0);
        range(30, "`kind`: the class, 0 to 3", "outline(0, ?)", 0, 3, ARGUMENT, 4, 6, 0, 2);
    }

    private static void ofBorders() {
        range(25, LEVEL, "border(?, 1, 2)", 0, 4, ARGUMENT, 1, 1, 1, 0);
        range(25, "`one`: the number of one parcel", "border(0, ?, 1)", 0, 15, INDEX, 1, 0, 0, 0);
        range(25, "`other`: the number of the other parcel", "border(0, 1, ?)", 0, 15, INDEX, 1, 0, 0, 0);
        range(26, LEVEL, "neighbors(?, 1)", 0, 4, ARGUMENT, 5, 5, 4, 0);
        range(26, PARCEL, "neighbors(0, ?)", 0, 15, INDEX, 2, 5, 0, 0);
    }

    private static void ofLabels() {
        range(31, LEVEL, "shown(?)", 0, 4, ARGUMENT, 7, 6, 6, 4);
        range(32, LEVEL, "position(?, 1)", 0, 4, ARGUMENT, 3, 3, 3, -1);
        range(32, POINT, "position(0, ?)", 0, 2, INDEX, 0, 3, 2);
        range(33, LEVEL, "refusal(?, 1, 0)", 0, 4, ARGUMENT, 0, 0, 0, "!state");
        range(33, POINT, "refusal(0, ?, 1)", 0, 2, INDEX, 0, 0, 1);
        range(33, "`position`: the position, 0 to 3", "refusal(0, 2, ?)", 0, 3, ARGUMENT, 1, 1, 0, 1);
        range(34, LEVEL, "labels(?)", 0, 4, ARGUMENT, 3, 2, 2, 1);
        range(35, LEVEL, "labelAt(?, 51, 19)", 0, 4, ARGUMENT, 1, 1, 1, -1);
        range(35, "`x`: the coordinate x", "labelAt(0, ?, 60)", 0, 63, ARGUMENT, -1, -1, -1, -1);
        range(35, "`y`: the coordinate y", "labelAt(0, 52, ?)", 0, 63, ARGUMENT, -1, -1, -1, -1);
        range(36, LEVEL, "covered(?)", 0, 4, ARGUMENT, 58, 50, 50, 48);
        range(37, LEVEL, "placedShare(?)", 0, 4, ARGUMENT, 1.0, 1.0, 1.0, 1.0);
        range(38, POINT, "placedOn(?)", 0, 2, INDEX, 1, 15, 31);
    }

    private static void ofTexts() {
        range(42, LEVEL, "describe(?, 0, -1)", 0, 4, ARGUMENT, 27, 22, 12, 12);
        range(42, LINE, "describe(0, ?, -1)", 0, 2, INDEX, 27, 11, 19);
        range(42, "`index`: the index of the character, from 0, or -1 for the length", "describe(0, 1, ?)", -1, 10,
                "!element", 11, (int) 'L', (int) '3', (int) ';');
        Edge.says(39, "`character`: the character, with a code from 32 to 126");
        Edge.onNew("append(0) = !argument", "append(30) = !argument", "append(31) = !argument", "append(32) = 1",
                "append(33) = 2", "append(125) = 3", "append(126) = 4", "append(127) = !argument",
                "append(128) = !argument", "append(255) = !argument", "append(65535) = !argument", "append(126) = 5");
    }
}
