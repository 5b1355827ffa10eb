/**
 * Each refused call: the exception that the document documents first where several apply, and that
 * it leaves unchanged all that can be asked of the map, its history and what was saved.
 */
final class RefusalEdges {
    private static final String SIX_LINES = "tell(L0,0-5,0;L0,2-5,2;L0,4-5,4;L0,6-5,6;L0,8-5,8;L10,0-11,9;)";

    private RefusalEdges() {
    }

    static void run() {
        Edge.says(3, "A method that throws an exception leaves the state unchanged, unless its documentation says"
                + " otherwise.");
        onSmallMap();
        onFullMap();
        onEmptyMap();
        read();
        severalExceptions();
    }

    private interface Maker {
        MapGeneralizer make();
    }

    /** Each call, which must be answered as its row says, leaves a map as it was. */
    private static void unchanged(Maker maker, String... rows) {
        String before = Sample.everything(maker.make());
        MapGeneralizer all = maker.make();
        for (String row : rows) {
            MapGeneralizer map = maker.make();
            Edge.on(map, row);
            Edge.on(all, row);
            Edge.due(row + " changes nothing", before, Sample.everything(map));
        }
        Edge.due("all refused calls change nothing", before, Sample.everything(all));
    }

    private static final class Small implements Maker {
        public MapGeneralizer make() {
            return Sample.small();
        }
    }

    private static final class Full implements Maker {
        public MapGeneralizer make() {
            return Sample.full();
        }
    }

    private static final class Empty implements Maker {
        public MapGeneralizer make() {
            return new MapGeneralizer();
        }
    }

    private static void onSmallMap() {
        unchanged(new Small(), "addPoint(64, 50, 5, 2, 1, 0) = !argument", "addPoint(48, 50, 5, 2, 1, 4) = !argument",
                "addPoint(30, 30, 5, 2, 1, 0) = !unsupported", "addPoint(4, 11, 5, 2, 1, 0) = !unsupported",
                "removeLine(3) = !index", "removeLine(-1) = !index", "removePoint(3) = !index",
                "removePoint(-1) = !index",
                "setCorner(3, 0) = !index", "setCorner(0, 4) = !argument", "setCorner(0, -1) = !argument",
                "paint(0, 0, 0, 1, 3) = !argument", "paint(0, 0, 9, 1, 3) = !argument",
                "paint(0, 0, 1, 1, 16) = !argument",
                "paint(0, 0, 1, 1, -2) = !argument", "setClass(16, 0) = !index", "setClass(0, 4) = !argument",
                "set(0, 0, 0) = !argument", "set(4, 0, 501) = !argument", "set(4, 0, 23) = !state",
                "set(1, 0, 17) = !state", "append(31) = !argument", "append(127) = !argument");
        unchanged(new Small(), "setting(5, 0) = !argument", "count(5) = !argument", "point(3, 0) = !index",
                "point(0, 6) = !argument", "vertices(5, 0) = !argument", "vertices(0, 3) = !index",
                "vertex(5, 0, 0, true) = !argument", "vertex(0, 0, 5, true) = !index", "lost(0, 5) = !index",
                "why(5, 0, 0) = !argument", "why(0, 0, 5) = !index", "weight(5, 0, 0) = !argument",
                "weight(0, 3, 0) = !index", "removed(0, 5) = !argument", "extent(5, 0) = !argument",
                "extent(0, 3) = !index", "mostSimplified(5) = !argument", "mostSimplified(0) = !element",
                "lineAt(0, 64, 0) = !argument", "parcelAt(0, 8, 0) = !argument", "area(5, 0) = !argument",
                "area(0, 16) = !index", "border(5, 0, 0) = !argument", "border(0, 16, 0) = !index");
        unchanged(new Small(), "neighbors(5, 0) = !argument", "neighbors(0, 16) = !index", "became(5, 0) = !argument",
                "became(0, 16) = !index", "became(0, 14) = !element", "parcels(0, 4) = !argument",
                "leftOver(5) = !argument", "outline(0, 4) = !argument", "shown(5) = !argument",
                "position(5, 0) = !argument", "position(0, 3) = !index", "refusal(0, 0, 4) = !argument",
                "refusal(0, 3, 0) = !index", "refusal(4, 0, 0) = !state", "labels(5) = !argument",
                "labelAt(0, 0, 64) = !argument", "covered(5) = !argument", "placedShare(5) = !argument",
                "placedOn(3) = !index", "describe(5, 0, 0) = !argument", "describe(0, 3, 0) = !index",
                "describe(0, 0, 27) = !element");
    }

    private static void onFullMap() {
        unchanged(new Full(), "addPoint(1, 50, 5, 2, 1, 0) = !state", "addPoint(20, 40, 5, 2, 1, 0) = !unsupported",
                "addPoint(3, 4, 5, 2, 1, 0) = !unsupported", "addPoint(1, 50, 5, 2, 1, 4) = !argument",
                "append('F') = !state", "append(127) = !argument", "restore() = !state", "errorPosition() = !element",
                "removeLine(6) = !index", "removePoint(12) = !index", "setCorner(12, 0) = !index");
    }

    private static void onEmptyMap() {
        unchanged(new Empty(), "undo() = !element", "restore() = !state", "errorPosition() = !element",
                "mostSimplified(4) = !element", "placedShare(0) = !arithmetic", "became(0, 0) = !element",
                "removeLine(0) = !index", "removePoint(0) = !index", "setCorner(0, 0) = !index",
                "vertices(0, 0) = !index",
                "vertex(0, 0, 0, false) = !index", "lost(0, 0) = !index", "describe(0, 0, -1) = !index",
                "position(0, 0) = !index", "refusal(0, 0, 0) = !index", "placedOn(0) = !index");
    }

    /** What read refuses leaves all but the input as it was, and no text keeps its error position. */
    private static void read() {
        Edge.says(40, "A method that throws an exception leaves the state unchanged, unless its documentation says"
                + " otherwise.");
        String before = Sample.everything(Sample.small());
        String[] rows = {"tell(7=9;P1,1r5w2h1;L0,10-0,20;) = !unsupported",
                "tell(7=9;L50,0-60,0;P30,30r5w2h1;) = !state",
            "tell(7=9;L50,0-60,0;L55,0-55,9;) = !unsupported", "tell(7=9;P50,0r5w2h1;L50,0-60,0;) = !unsupported",
            "tell(7=9;L50,0-60,0;P55,0r5w2h1;) = !state", "tell(F) = !argument"};
        for (String row : rows) {
            MapGeneralizer map = Sample.small();
            Edge.on(map, row);
            Edge.make(map, "append('F')", "append('1')");
            Edge.due(row, before, Sample.everything(map));
        }
        MapGeneralizer other = Sample.small();
        Edge.on(other, "tell(;) = !argument", "errorPosition() = 2", "tell(F0) = !argument", "errorPosition() = 2",
                "tell(F00;) = !argument", "errorPosition() = 3", "tell(L0;) = !argument");
        Edge.make(other, "append('F')", "append('1')");
        Edge.due("texts that are none", before, Sample.everything(other));
    }

    private static void severalExceptions() {
        String sentence = "If several exceptions apply, the one that is documented first is thrown.";
        Edge.says(3, sentence);
        Edge.on(Sample.full(), "addPoint(20, 40, 5, 2, 1, 4) = !argument",
                "addPoint(20, 40, 5, 2, 1, 3) = !unsupported",
                "addPoint(3, 4, 10, 2, 1, 0) = !argument", "addPoint(3, 4, 9, 2, 1, 0) = !unsupported",
                "addPoint(64, 40, 9, 2, 1, 0) = !argument", "addPoint(63, 40, 9, 2, 1, 0) = !state");
        Edge.says(6, sentence);
        Edge.on(Sample.small(), "setCorner(3, 4) = !index", "setCorner(-1, -1) = !index",
                "setCorner(2, 4) = !argument");
        Edge.says(8, sentence);
        Edge.onNew("setClass(16, 4) = !index", "setClass(-1, -1) = !index", "setClass(15, 4) = !argument");
        Edge.says(10, sentence);
        Edge.onNew("set(2, 0, 501) = !argument", "set(2, 0, -1) = !argument", "set(2, 0, 500) = !state",
                "set(2, 0, 0) = !state", "set(5, 0, 0) = !argument", "set(2, 3, 500) = !argument");
        Edge.says(13, sentence);
        Edge.on(Sample.small(), "point(3, 6) = !index", "point(-1, -1) = !index", "point(2, 6) = !argument");
        Edge.says(14, sentence);
        Edge.onNew("vertices(5, 0) = !argument", "vertices(4, 0) = !index");
        Edge.says(15, sentence);
        Edge.on(Sample.small(), "vertex(5, 3, 9, true) = !argument", "vertex(5, 0, 9, true) = !argument",
                "vertex(-1, 3, 0, true) = !argument", "vertex(4, 3, 9, true) = !index",
                "vertex(4, 0, 9, true) = !index");
        Edge.says(17, sentence);
        Edge.on(Sample.small(), "why(5, 3, 9) = !argument", "why(5, 0, 9) = !argument", "why(4, 3, 9) = !index");
        Edge.says(18, sentence);
        Edge.on(Sample.small(), "weight(5, 3, 9) = !argument", "weight(5, 0, 9) = !argument",
                "weight(4, 3, 9) = !index");
        Edge.says(20, sentence);
        Edge.onNew("extent(5, 0) = !argument", "extent(4, 0) = !index");
        Edge.says(21, sentence);
        Edge.onNew("mostSimplified(5) = !argument", "mostSimplified(-1) = !argument", "mostSimplified(4) = !element");
        severalOfParcelsAndLabels(sentence);
        severalOfTexts(sentence);
    }

    private static void severalOfParcelsAndLabels(String sentence) {
        Edge.says(24, sentence);
        Edge.onNew("area(5, 16) = !argument", "area(-1, -1) = !argument", "area(4, 16) = !index");
        Edge.says(25, sentence);
        Edge.onNew("border(5, 16, 0) = !argument", "border(5, 0, -1) = !argument", "border(4, 16, -1) = !index");
        Edge.says(26, sentence);
        Edge.onNew("neighbors(5, 16) = !argument", "neighbors(4, 16) = !index");
        Edge.says(27, sentence);
        Edge.onNew("became(5, 16) = !argument", "became(5, 0) = !argument", "became(4, 16) = !index",
                "became(4, -1) = !index", "became(4, 0) = !element");
        Edge.says(32, sentence);
        Edge.onNew("position(5, 0) = !argument", "position(4, 0) = !index");
        Edge.says(33, sentence);
        Edge.on(Sample.small(), "refusal(5, 3, 0) = !argument", "refusal(4, 3, 4) = !argument",
                "refusal(5, 0, 0) = !argument", "refusal(4, 0, 4) = !argument", "refusal(4, 3, 0) = !index",
                "refusal(4, 0, 3) = !state");
        Edge.says(37, sentence);
        Edge.onNew("placedShare(5) = !argument", "placedShare(-1) = !argument", "placedShare(0) = !arithmetic");
    }

    private static void severalOfTexts(String sentence) {
        Edge.says(39, sentence);
        Edge.on(Sample.full(), "append(31) = !argument", "append(127) = !argument", "append(126) = !state");
        Edge.says(40, sentence);
        Edge.on(Edge.made(SIX_LINES), "tell(L3,1-3,9;P3,0r1w2h1) = !argument", "tell(L3,1-3,9;) = !unsupported",
                "tell(L3,1-3,1;) = !unsupported", "tell(L3,1-4,1-3,1;) = !unsupported", "tell(L3,1-4,1;) = !state",
                "addPoint(20, 20, 5, 2, 1, 0) = 0", "tell(L20,20-30,20;) = !unsupported",
                "tell(L21,20-30,20;) = !state");
        Edge.says(42, sentence);
        Edge.onNew("describe(5, 0, -2) = !argument", "describe(4, 0, -2) = !index", "describe(4, 0, 0) = !index",
                "tell(L0,0-5,5;) = 1", "describe(5, 0, 99) = !argument", "describe(4, 0, 99) = !element");
    }
}
