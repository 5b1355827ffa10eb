/** Sentences about the map, promises 1 to 13, at their boundaries. */
final class MapEdges {
    private static final String SIX_LINES = "tell(L0,0-5,0;L0,2-5,2;L0,4-5,4;L0,6-5,6;L0,8-5,8;L10,0-11,9;)";

    private MapEdges() {
    }

    static void run() {
        newObject();
        clear();
        points();
        takenPlaces();
        numberOfPoints();
        numberOfLines();
        removeLine();
        removePoint();
        setCorner();
        fields();
        areas();
        classes();
        strict();
        settings();
        settingsBeside();
        counts();
        numbersOfPoint();
    }

    private static MapGeneralizer withPoints(int number) {
        MapGeneralizer map = new MapGeneralizer();
        for (int i = 0; i < number; i++) {
            Edge.make(map, "addPoint(" + 5 * i + ", 7, " + i % 10 + ", 2, 1, " + i % 4 + ")");
        }
        return map;
    }

    private static void newObject() {
        Edge.says(1, "Creates a map without lines, points and parcels.");
        Edge.onNew("count(0) = 0", "count(1) = 0", "count(2) = 0", "count(3) = 64", "count(4) = 0",
                "vertices(0, 0) = !index", "point(0, 0) = !index", "area(0, 0) = 0", "area(0, 15) = 0",
                "parcels(4, -1) = 0", "shown(0) = 0", "labels(4) = 0", "removed(0, 4) = 0", "undo() = !element",
                "restore() = !state", "errorPosition() = !element", "append('F') = 1");
        Edge.says(1, "Merging is not strict at first.");
        Edge.onNew("setStrict(true) = false", "setStrict(false) = true");
        Edge.says(1, "An object is used for at most 512 calls after it has been made;");
        MapGeneralizer map = new MapGeneralizer();
        for (int call = 1; call <= 510; call++) {
            Edge.make(map, "setClass(" + call % 16 + ", " + call % 3 + ")");
        }
        Edge.on(map, "undo() = 7", "setClass(14, 3) = " + 494 % 3);
    }

    private static void clear() {
        Edge.says(2, "Removes all lines, points and parcels, and makes all settings and classes what they are at"
                + " first.");
        MapGeneralizer map = Edge.made(SIX_LINES, "setStrict(true)", "paint(0, 0, 8, 8, 15)");
        for (int i = 0; i < 12; i++) {
            Edge.make(map, "addPoint(" + 5 * i + ", 30, 9, 2, 1, 3)");
        }
        for (int parcel = 0; parcel < 16; parcel++) {
            Edge.make(map, "setClass(" + parcel + ", 3)", "paint(" + parcel % 8 + ", " + parcel / 8 + ", 1, 1, "
                    + parcel + ")");
        }
        Edge.make(map, "set(4, 0, 500)", "set(4, 1, 20)", "set(4, 2, 9)", "set(3, 0, 500)", "set(1, 0, 0)",
                "set(1, 1, 0)", "set(1, 2, 0)");
        Edge.on(map, "clear() = 6", "count(0) = 0", "count(1) = 0", "count(2) = 0", "count(3) = 64", "count(4) = 0");
        for (int level = 1; level < 5; level++) {
            Edge.on(map, "setting(" + level + ", 0) = " + 8 * level, "setting(" + level + ", 1) = " + level,
                    "setting(" + level + ", 2) = " + level);
        }
        for (int parcel = 0; parcel < 16; parcel++) {
            Edge.on(map, "setClass(" + parcel + ", 0) = 0");
        }
        Edge.on(Edge.made("tell(L0,10-4,11-8,10-9,14-12,10;)", "addPoint(30, 30, 9, 2, 1, 0)", "paint(0, 0, 1, 1, 0)",
                "paint(1, 0, 2, 1, 1)"), "removed(0, 4) = 3", "area(4, 1) = 3", "labels(4) = 1", "clear() = 1",
                "removed(0, 4) = 0", "area(4, 1) = 0", "labels(4) = 0", "lineAt(4, 0, 10) = -1", "covered(4) = 0",
                "addPoint(40, 30, 9, 2, 1, 3) = 0", "position(4, 0) = 3");
        Edge.says(2, "after clear, merging is not strict.");
        Edge.on(Edge.made("setStrict(true)", "clear()"), "setStrict(false) = false");
        Edge.on(Edge.made("setStrict(false)", "clear()"), "setStrict(true) = false");
        Edge.says(2, "Returns the number of lines that there were.");
        Edge.onNew("clear() = 0", "clear() = 0");
        Edge.on(Edge.made("tell(L0,0-5,0;)"), "clear() = 1", "clear() = 0");
        Edge.on(Edge.made(SIX_LINES, "removeLine(5)"), "clear() = 5", "clear() = 0");
    }

    private static void points() {
        Edge.says(3, "they have coordinates, a rank from 0 to 9, a width from 2 to 12 and a height from 1 to 4 of their"
                + " labels, and a corner from 0 to 3.");
        Edge.onNew("addPoint(0, 0, 0, 2, 1, 0) = 0", "addPoint(63, 63, 9, 12, 4, 3) = 1",
                "addPoint(1, 62, 1, 3, 2, 1) = 2", "addPoint(62, 1, 8, 11, 3, 2) = 3",
                "point(0, 0) = 0", "point(0, 1) = 0", "point(0, 2) = 0", "point(0, 3) = 2", "point(0, 4) = 1",
                "point(0, 5) = 0", "point(1, 0) = 63", "point(1, 1) = 63", "point(1, 2) = 9", "point(1, 3) = 12",
                "point(1, 4) = 4", "point(1, 5) = 3", "point(2, 0) = 1", "point(2, 1) = 62", "point(2, 2) = 1",
                "point(2, 3) = 3", "point(2, 4) = 2", "point(2, 5) = 1", "point(3, 3) = 11");
        Edge.says(3, "Coordinates x and y are from 0 to 63.");
        for (String corner : new String[] {"0, 0", "0, 63", "63, 0", "63, 63"}) {
            Edge.onNew("addPoint(" + corner + ", 5, 2, 1, 0) = 0");
        }
        for (String beyond : new String[] {"-1, 0", "0, -1", "-1, 63", "0, 64", "64, 0", "63, -1", "64, 63",
            "63, 64"}) {
            Edge.onNew("addPoint(" + beyond + ", 5, 2, 1, 0) = !argument", "count(1) = 0");
        }
        Edge.says(3, "Throws `IllegalArgumentException` if a number is out of range");
        for (String numbers : new String[] {"-1, 0, 0, 2, 1, 0", "0, 64, 0, 2, 1, 0", "0, 0, -1, 2, 1, 0",
            "0, 0, 10, 2, 1, 0", "0, 0, 0, 1, 1, 0", "0, 0, 0, 13, 1, 0", "0, 0, 0, 2, 0, 0", "0, 0, 0, 2, 5, 0",
            "0, 0, 0, 2, 1, -1", "0, 0, 0, 2, 1, 4", "MIN, MAX, MIN, MAX, MIN, MAX"}) {
            Edge.onNew("addPoint(" + numbers + ") = !argument", "count(1) = 0", "undo() = !element");
        }
    }

    private static void takenPlaces() {
        Edge.says(3, "Different points have different coordinates, and no point is on a line.");
        Edge.onNew("addPoint(30, 30, 5, 2, 1, 0) = 0", "addPoint(30, 30, 6, 3, 2, 1) = !unsupported",
                "addPoint(29, 30, 5, 2, 1, 0) = 1", "addPoint(31, 30, 5, 2, 1, 0) = 2",
                "addPoint(30, 29, 5, 2, 1, 0) = 3", "addPoint(30, 31, 5, 2, 1, 0) = 4",
                "removePoint(0) = 4", "addPoint(30, 30, 5, 2, 1, 0) = 4");
        Edge.says(3, "if there is a point with these coordinates, or the point would be on a line");
        MapGeneralizer map = Edge.made("tell(L20,10-26,13-30,13;L40,50-40,40;)");
        for (String on : new String[] {"20, 10", "22, 11", "24, 12", "26, 13", "27, 13", "29, 13", "30, 13", "40, 50",
            "40, 49", "40, 41", "40, 40"}) {
            Edge.on(map, "addPoint(" + on + ", 5, 2, 1, 0) = !unsupported");
        }
        int number = 0;
        for (String beside : new String[] {"18, 9", "19, 10", "21, 10", "21, 11", "22, 12", "23, 11", "31, 13",
            "28, 14", "40, 51", "40, 39", "39, 45", "41, 45"}) {
            Edge.on(map, "addPoint(" + beside + ", 5, 2, 1, 0) = " + number);
            number++;
        }
        Edge.says(3, "addPoint looks at the lines of level 0.");
        Edge.on(Edge.made("tell(L0,10-4,11-8,10;)"), "lineAt(1, 4, 10) = 0",
                "addPoint(4, 11, 5, 2, 1, 0) = !unsupported",
                "addPoint(4, 10, 5, 2, 1, 0) = 0", "lineAt(1, 4, 10) = -1", "lineAt(1, 4, 11) = 0");
    }

    private static void numberOfPoints() {
        Edge.says(3, "There are at most 12 points, numbered from 0 in the order in which they were added;");
        Edge.on(withPoints(11), "addPoint(9, 9, 1, 2, 1, 0) = 11", "point(11, 0) = 9", "point(10, 0) = 50",
                "point(0, 0) = 0", "count(1) = 12");
        Edge.says(3, "Throws `IllegalStateException` if there are 12 points");
        Edge.on(withPoints(12), "addPoint(9, 9, 1, 2, 1, 0) = !state", "count(1) = 12", "undo() = 7",
                "addPoint(9, 9, 1, 2, 1, 0) = 11", "addPoint(9, 10, 1, 2, 1, 0) = !state");
        Edge.says(3, "If several exceptions apply, the one that is documented first is thrown.");
        Edge.on(withPoints(12), "addPoint(55, 7, 1, 2, 1, 0) = !unsupported", "addPoint(55, 7, 1, 2, 1, 4) = !argument",
                "addPoint(9, 9, 10, 2, 1, 0) = !argument");
        Edge.says(3, "Throws `UnsupportedOperationException` if there is a point with these coordinates");
        Edge.on(withPoints(2), "addPoint(0, 7, 1, 2, 1, 0) = !unsupported", "addPoint(5, 7, 1, 2, 1, 0) = !unsupported",
                "addPoint(10, 7, 1, 2, 1, 0) = 2");
        Edge.says(3, "Adds a point.");
        Edge.onNew("addPoint(9, 9, 1, 2, 1, 0) = 0", "count(1) = 1", "undo() = 0", "count(1) = 0");
        Edge.says(3, "Returns the number of the point.");
        Edge.on(withPoints(1), "addPoint(9, 9, 1, 2, 1, 0) = 1", "removePoint(0) = 1",
                "addPoint(9, 10, 1, 2, 1, 0) = 1");
    }

    private static void numberOfLines() {
        Edge.says(4, "There are at most 6 lines, numbered from 0 in the order in which they were added;");
        Edge.on(Edge.made(SIX_LINES), "count(0) = 6", "text(0, 0) = L0,0-5,0;", "text(0, 4) = L0,8-5,8;",
                "text(0, 5) = L10,0-11,9;", "vertices(0, 6) = !index", "tell(L20,0-20,9;) = !state", "count(0) = 6",
                "removeLine(0) = 5", "tell(L20,0-20,9;) = 1", "text(0, 5) = L20,0-20,9;",
                "tell(L30,0-30,9;) = !state");
    }

    private static void removeLine() {
        Edge.says(4, "the numbers of the later ones decrease by 1.");
        Edge.on(Edge.made(SIX_LINES), "removeLine(0) = 5", "text(0, 0) = L0,2-5,2;", "text(0, 4) = L10,0-11,9;",
                "removeLine(4) = 4", "text(0, 3) = L0,8-5,8;", "removeLine(1) = 3", "text(0, 0) = L0,2-5,2;",
                "text(0, 1) = L0,6-5,6;", "text(0, 2) = L0,8-5,8;");
        Edge.says(4, "Removes a line;");
        Edge.on(Edge.made(SIX_LINES), "removeLine(5) = 5", "vertices(0, 5) = !index", "lineAt(0, 10, 0) = -1",
                "count(4) = 10");
        Edge.says(4, "Returns the number of lines that remain.");
        Edge.on(Edge.made(SIX_LINES), "removeLine(5) = 5", "removeLine(0) = 4", "removeLine(0) = 3",
                "removeLine(2) = 2",
                "removeLine(1) = 1", "removeLine(0) = 0", "removeLine(0) = !index", "count(4) = 0");
        Edge.says(4, "Throws `IndexOutOfBoundsException` if there is no such line");
        Edge.onNew("removeLine(0) = !index", "removeLine(-1) = !index");
        Edge.on(Edge.made("tell(L0,0-5,0;)"), "removeLine(1) = !index", "removeLine(-1) = !index", "removeLine(0) = 0");
        Edge.on(Edge.made(SIX_LINES), "removeLine(6) = !index", "removeLine(MAX) = !index", "removeLine(MIN) = !index",
                "count(0) = 6", "undo() = 0", "count(0) = 0");
    }

    private static void removePoint() {
        Edge.says(5, "the numbers of the later ones decrease by 1.");
        Edge.on(withPoints(12), "removePoint(0) = 11", "point(0, 0) = 5", "point(0, 2) = 1", "point(0, 5) = 1",
                "point(10, 0) = 55", "removePoint(10) = 10", "point(9, 0) = 50", "point(10, 0) = !index",
                "removePoint(3) = 9", "point(2, 0) = 15", "point(3, 0) = 25", "point(8, 0) = 50");
        Edge.says(5, "Removes a point;");
        Edge.on(withPoints(2), "removePoint(1) = 1", "point(1, 0) = !index", "addPoint(5, 7, 3, 2, 1, 0) = 1");
        Edge.says(5, "Returns the number of points that remain.");
        Edge.on(withPoints(2), "removePoint(0) = 1", "removePoint(0) = 0", "removePoint(0) = !index", "shown(0) = 0");
        Edge.says(5, "Throws `IndexOutOfBoundsException` if there is no such point");
        Edge.onNew("removePoint(0) = !index", "removePoint(-1) = !index");
        Edge.on(withPoints(12), "removePoint(12) = !index", "removePoint(-1) = !index", "removePoint(11) = 11",
                "removePoint(11) = !index", "removePoint(10) = 10");
    }

    private static void setCorner() {
        Edge.says(6, "Sets the corner of a point.");
        Edge.on(withPoints(12), "setCorner(11, 0) = 3", "point(11, 5) = 0", "point(10, 5) = 2", "setCorner(0, 3) = 0",
                "point(0, 5) = 3", "point(1, 5) = 1");
        Edge.says(6, "Returns the previous corner.");
        Edge.on(withPoints(1), "setCorner(0, 3) = 0", "setCorner(0, 3) = 3", "setCorner(0, 2) = 3",
                "setCorner(0, 1) = 2", "setCorner(0, 0) = 1");
        Edge.says(6, "Throws `IndexOutOfBoundsException` if there is no such point");
        Edge.onNew("setCorner(0, 0) = !index", "setCorner(0, 4) = !index");
        Edge.on(withPoints(12), "setCorner(12, 0) = !index", "setCorner(-1, 0) = !index", "setCorner(12, -1) = !index",
                "setCorner(11, 1) = 3");
        Edge.says(6, "Throws `IllegalArgumentException` if corner is out of range");
        Edge.on(withPoints(1), "setCorner(0, -1) = !argument", "setCorner(0, 4) = !argument", "point(0, 5) = 0");
    }

    private static void fields() {
        Edge.says(7, "There are 64 fields in 8 columns and 8 rows, both numbered from 0;");
        Edge.onNew("paint(0, 0, 8, 8, 0) = 64", "paint(7, 7, 1, 1, 1) = 1", "parcelAt(0, 7, 7) = 1",
                "parcelAt(0, 6, 7) = 0", "parcelAt(0, 7, 6) = 0", "paint(0, 7, 1, 1, 2) = 1", "parcelAt(0, 0, 7) = 2",
                "parcelAt(0, 7, 0) = 0", "paint(8, 0, 1, 1, 3) = !argument", "paint(0, 8, 1, 1, 3) = !argument");
        Edge.says(7, "each one belongs to no parcel, as at first, or to one of the parcels 0 to 15.");
        Edge.onNew("fields(0) = " + "......../".repeat(8), "paint(0, 0, 1, 1, -2) = !argument",
                "paint(0, 0, 1, 1, -1) = 64", "paint(0, 0, 1, 1, 0) = 1", "paint(1, 0, 1, 1, 15) = 1",
                "paint(2, 0, 1, 1, 16) = !argument", "fields(0) = 0f....../" + "......../".repeat(7));
        Edge.says(7, "Gives the fields of a rectangle to a parcel, or to none.");
        Edge.onNew("paint(1, 2, 3, 2, 10) = 6", "paint(2, 3, 1, 1, -1) = 59",
                "fields(0) = " + "......../".repeat(2) + ".aaa..../.a.a..../" + "......../".repeat(4),
                "paint(0, 0, 8, 8, -1) = 64", "fields(0) = " + "......../".repeat(8));
        Edge.says(7, "if a number is out of range, or the rectangle is empty or not within the 64 fields");
        Edge.onNew("paint(0, 0, 0, 1, 3) = !argument", "paint(0, 0, 1, 0, 3) = !argument",
                "paint(3, 3, -1, 1, 3) = !argument", "paint(3, 3, 1, -1, 3) = !argument",
                "paint(0, 0, 9, 1, 3) = !argument", "paint(0, 0, 1, 9, 3) = !argument",
                "paint(1, 0, 8, 1, 3) = !argument", "paint(0, 1, 1, 8, 3) = !argument",
                "paint(7, 0, 2, 1, 3) = !argument", "paint(0, 7, 1, 2, 3) = !argument",
                "paint(1, 1, MAX, 1, 3) = !argument", "paint(1, 1, 1, MAX, 3) = !argument",
                "paint(MAX, 0, MAX, 1, 3) = !argument", "paint(0, MIN, 1, MIN, 3) = !argument",
                "paint(-1, 0, 2, 1, 3) = !argument", "paint(0, -1, 1, 2, 3) = !argument",
                "fields(0) = " + "......../".repeat(8), "undo() = !element",
                "paint(0, 0, 8, 1, 3) = 8", "paint(0, 0, 1, 8, 3) = 15", "paint(1, 0, 7, 1, 3) = 15",
                "paint(7, 0, 1, 8, 3) = 22", "paint(7, 7, 1, 1, 3) = 22");
    }

    private static void areas() {
        Edge.says(7, "Returns the area of the parcel then, or the number of fields without a parcel.");
        Edge.onNew("paint(0, 0, 1, 1, 15) = 1", "paint(0, 0, 1, 1, 15) = 1", "paint(0, 0, 8, 8, 15) = 64",
                "paint(0, 0, 1, 1, -1) = 1", "paint(1, 0, 1, 1, -1) = 2", "paint(0, 0, 8, 8, -1) = 64");
        Edge.says(24, "The area of a parcel is the number of its fields.");
        Edge.onNew("area(0, 0) = 0", "paint(0, 0, 1, 1, 0) = 1", "area(0, 0) = 1", "paint(7, 7, 1, 1, 0) = 2",
                "area(0, 0) = 2", "paint(0, 0, 8, 8, 0) = 64", "area(0, 0) = 64", "paint(3, 3, 1, 1, 1) = 1",
                "area(0, 0) = 63", "paint(3, 3, 1, 1, -1) = 1", "area(0, 0) = 63", "area(0, 1) = 0");
    }

    private static void classes() {
        Edge.says(8, "Each parcel has a class from 0 to 3, at first 0.");
        for (int parcel = 0; parcel < 16; parcel++) {
            Edge.onNew("setClass(" + parcel + ", 3) = 0", "setClass(" + parcel + ", 0) = 3",
                    "setClass(" + parcel + ", 4) = !argument", "setClass(" + parcel + ", -1) = !argument",
                    "setClass(" + parcel + ", 1) = 0", "setClass(" + (parcel + 1) % 16 + ", 1) = 0");
        }
        Edge.says(8, "Sets the class of a parcel.");
        Edge.onNew("paint(0, 0, 1, 1, 15) = 1", "setClass(15, 3) = 0", "parcels(0, 3) = 1", "parcels(0, 0) = 0");
        Edge.says(8, "Returns the previous class.");
        Edge.onNew("setClass(0, 3) = 0", "setClass(0, 3) = 3", "setClass(0, 2) = 3", "setClass(0, 0) = 2");
        Edge.says(8, "Throws `IndexOutOfBoundsException` if there is no such parcel");
        Edge.onNew("setClass(-1, 0) = !index", "setClass(16, 0) = !index", "setClass(-1, 4) = !index",
                "setClass(16, -1) = !index", "setClass(0, 0) = 0", "setClass(15, 0) = 0");
        Edge.says(8, "Throws `IllegalArgumentException` if kind is out of range");
        Edge.onNew("setClass(0, -1) = !argument", "setClass(15, 4) = !argument", "setClass(0, MAX) = !argument",
                "setClass(0, MIN) = !argument", "undo() = !element");
    }

    private static void strict() {
        Edge.says(9, "Sets whether merging is strict.");
        Edge.on(Edge.made("paint(0, 0, 1, 1, 0)", "paint(1, 0, 4, 1, 1)", "setClass(1, 1)"), "leftOver(2) = 0",
                "setStrict(true) = false", "leftOver(2) = 1", "setStrict(false) = true", "leftOver(2) = 0");
        Edge.says(9, "`isStrict`: whether it is strict");
        Edge.onNew("setStrict(false) = false", "setStrict(true) = false", "setStrict(false) = true");
        Edge.says(9, "Returns whether it was strict before.");
        Edge.onNew("setStrict(true) = false", "setStrict(true) = true", "setStrict(false) = true",
                "setStrict(false) = false");
    }

    private static void settings() {
        Edge.says(10, "There are the levels 0 to 4.");
        Edge.onNew("setting(-1, 0) = !argument", "setting(0, 0) = 0", "setting(1, 0) = 8", "setting(4, 0) = 32",
                "setting(5, 0) = !argument");
        Edge.says(10, "Each other level has three settings: 0, a tolerance, from 0 to 500;");
        Edge.onNew("set(1, 0, 0) = 8", "set(1, 0, 1) = 0", "set(1, 0, -1) = !argument", "set(4, 0, 499) = 32",
                "set(4, 0, 500) = 499", "set(4, 0, 501) = !argument", "set(4, 0, MAX) = !argument",
                "set(1, 0, MIN) = !argument", "setting(1, 0) = 1", "setting(4, 0) = 500");
        Edge.says(10, "1, a least area, from 0 to 20;");
        Edge.onNew("set(1, 1, 0) = 1", "set(1, 1, 1) = 0", "set(1, 1, -1) = !argument", "set(4, 1, 19) = 4",
                "set(4, 1, 20) = 19", "set(4, 1, 21) = !argument", "setting(1, 1) = 1", "setting(4, 1) = 20");
        Edge.says(10, "and 2, a least rank, from 0 to 9.");
        Edge.onNew("set(1, 2, 0) = 1", "set(1, 2, 1) = 0", "set(1, 2, -1) = !argument", "set(4, 2, 8) = 4",
                "set(4, 2, 9) = 8", "set(4, 2, 10) = !argument", "setting(1, 2) = 1", "setting(4, 2) = 9");
        Edge.says(10, "Throws `IllegalArgumentException` if a number is out of range");
        Edge.onNew("set(0, 0, 0) = !argument", "set(5, 0, 500) = !argument", "set(1, -1, 1) = !argument",
                "set(1, 3, 1) = !argument", "set(MIN, MIN, MIN) = !argument", "set(MAX, MAX, MAX) = !argument",
                "undo() = !element");
        Edge.says(11, "At first the tolerance is 8 times, and the least area and the least rank are 1 times the number"
                + " of the level.");
        for (int level = 0; level < 5; level++) {
            Edge.onNew("setting(" + level + ", 0) = " + 8 * level, "setting(" + level + ", 1) = " + level,
                    "setting(" + level + ", 2) = " + level);
        }
        Edge.says(11, "Returns a setting of a level.");
        Edge.onNew("set(4, 0, 41) = 32", "set(4, 1, 7) = 4", "set(4, 2, 6) = 4", "setting(4, 0) = 41",
                "setting(4, 1) = 7", "setting(4, 2) = 6", "setting(3, 2) = 3");
        Edge.says(11, "Returns the value.");
        Edge.onNew("setting(0, 0) = 0", "setting(0, 1) = 0", "setting(0, 2) = 0", "setting(1, 2) = 1");
        Edge.says(11, "Throws `IllegalArgumentException` if a number is out of range");
        Edge.onNew("setting(-1, 0) = !argument", "setting(5, 2) = !argument", "setting(0, -1) = !argument",
                "setting(4, 3) = !argument", "setting(-1, 3) = !argument", "setting(MIN, MAX) = !argument");
    }

    private static void settingsBeside() {
        Edge.says(10, "A setting of a level is never less than that of the level before, where those of level 0 are"
                + " 0.");
        Edge.onNew("set(2, 0, 7) = !state", "set(2, 0, 8) = 16", "set(2, 0, 9) = 8", "set(3, 0, 8) = !state",
                "set(3, 0, 9) = 24", "set(2, 0, 10) = !state", "set(1, 0, 0) = 8", "set(1, 0, 9) = 0",
                "set(1, 0, 10) = !state", "setting(1, 0) = 9");
        Edge.says(10, "if value is less than that of the level before, or greater than that of the level behind");
        String[] rows = {"set(1, 0, 17) = !state", "set(1, 0, 16) = 8", "set(2, 0, 15) = !state",
            "set(2, 0, 25) = !state", "set(2, 0, 24) = 16", "set(3, 0, 23) = !state", "set(3, 0, 33) = !state",
            "set(3, 0, 32) = 24", "set(4, 0, 31) = !state", "set(4, 0, 32) = 32", "set(1, 1, 3) = !state",
            "set(1, 1, 2) = 1", "set(2, 1, 1) = !state", "set(2, 1, 4) = !state", "set(2, 1, 3) = 2",
            "set(4, 1, 2) = !state", "set(4, 1, 3) = 4", "set(3, 2, 1) = !state", "set(3, 2, 5) = !state",
            "set(3, 2, 4) = 3", "set(4, 2, 3) = !state", "set(4, 2, 9) = 4", "set(3, 2, 9) = 4"};
        Edge.onNew(rows);
        Edge.says(10, "If several exceptions apply, the one that is documented first is thrown.");
        Edge.onNew("set(1, 0, 501) = !argument", "set(1, 0, -1) = !argument", "set(2, 1, -1) = !argument",
                "set(2, 1, 21) = !argument", "set(3, 2, 10) = !argument", "set(0, 0, 9) = !argument",
                "set(5, 0, 0) = !argument", "set(2, 3, 0) = !argument", "set(2, 0, 500) = !state");
        Edge.says(10, "Sets a setting of a level.");
        Edge.onNew("set(2, 1, 3) = 2", "setting(2, 1) = 3", "setting(1, 1) = 1", "setting(3, 1) = 3",
                "setting(2, 0) = 16", "setting(2, 2) = 2");
        Edge.says(10, "`value`: the value");
        Edge.onNew("set(4, 1, 4) = 4", "set(4, 1, 3) = 4", "set(4, 1, 20) = 3");
        Edge.says(10, "Returns the previous value.");
        Edge.onNew("set(4, 2, 9) = 4", "set(4, 2, 9) = 9", "set(4, 2, 3) = 9");
    }

    private static void counts() {
        Edge.says(12, "Returns a count.");
        Edge.onNew("count(0) = 0", "count(1) = 0", "count(2) = 0", "count(3) = 64", "count(4) = 0");
        Edge.says(12, "Returns the count.");
        MapGeneralizer map = Sample.full();
        Edge.on(map, "count(0) = 6", "count(1) = 12", "count(4) = 12");
        Edge.says(12, "2 for parcels with an area greater than 0");
        Edge.onNew("paint(0, 0, 8, 8, 15) = 64", "count(2) = 1", "count(3) = 0", "paint(0, 0, 1, 1, 0) = 1",
                "count(2) = 2", "count(3) = 0", "paint(0, 0, 1, 1, -1) = 1", "count(2) = 1", "count(3) = 1");
        MapGeneralizer all = new MapGeneralizer();
        for (int parcel = 0; parcel < 16; parcel++) {
            Edge.make(all, "paint(" + parcel % 8 + ", " + parcel / 8 + ", 1, 1, " + parcel + ")");
        }
        Edge.on(all, "count(2) = 16", "count(3) = 48", "paint(0, 0, 8, 1, -1) = 56", "count(2) = 8");
        Edge.says(12, "Level 0 is the map as it is.");
        Edge.on(Edge.made("tell(L0,0-2,0-4,0;)", "paint(0, 0, 1, 1, 0)", "paint(1, 0, 2, 1, 1)"), "count(4) = 3",
                "vertices(0, 0) = 3", "vertices(1, 0) = 2", "count(2) = 2", "parcels(0, -1) = 2", "parcels(2, -1) = 1",
                "set(1, 0, 0) = 8", "vertices(0, 0) = 3");
        Edge.says(12, "Throws `IllegalArgumentException` if what is not 0 to 4");
        Edge.onNew("count(-1) = !argument", "count(5) = !argument", "count(MIN) = !argument", "count(MAX) = !argument");
    }

    private static void numbersOfPoint() {
        Edge.says(13, "Returns a number of a point.");
        MapGeneralizer map = withPoints(12);
        Edge.on(map, "point(0, 0) = 0", "point(11, 0) = 55", "point(11, 1) = 7", "point(11, 2) = 1", "point(11, 5) = 3",
                "point(9, 2) = 9");
        Edge.says(13, "Returns the number.");
        Edge.onNew("addPoint(1, 2, 3, 5, 4, 2) = 0", "point(0, 0) = 1", "point(0, 1) = 2", "point(0, 2) = 3",
                "point(0, 3) = 5", "point(0, 4) = 4", "point(0, 5) = 2");
        Edge.says(13, "Throws `IndexOutOfBoundsException` if there is no such point");
        Edge.onNew("point(0, 0) = !index", "point(-1, -1) = !index", "point(0, 6) = !index");
        Edge.on(map, "point(12, 0) = !index", "point(-1, 0) = !index", "point(12, 6) = !index",
                "point(MAX, 0) = !index");
        Edge.says(13, "Throws `IllegalArgumentException` if what is not 0 to 5");
        Edge.on(map, "point(11, -1) = !argument", "point(0, 6) = !argument", "point(0, MIN) = !argument",
                "point(0, MAX) = !argument");
    }
}
