/** Maps on which the edges are tested, and all that can be asked of one. */
final class Sample {
    private static final String[] IN_SHORT = {"count(0)", "count(1)", "count(2)", "count(3)", "count(4)",
        "point(0, 5)", "area(0, 15)", "outline(0, 1)", "setting(4, 0)"};

    private Sample() {
    }

    /**
     * Three lines, three points and four parcels, no two of a kind alike. Something else is saved,
     * three changes are remembered, the error position is 2, and F1 is the input.
     */
    static MapGeneralizer small() {
        MapGeneralizer map = Edge.made(
                "tell(L0,10-4,11-8,10-9,14-12,10;L20,0-26,3;L40,40-42,44-44,40;)",
                "addPoint(30, 30, 0, 4, 2, 1)", "addPoint(50, 20, 3, 2, 1, 3)", "addPoint(62, 62, 9, 12, 4, 1)",
                "paint(0, 0, 1, 1, 0)", "paint(1, 0, 2, 1, 1)", "paint(3, 0, 4, 1, 2)", "setClass(15, 3)",
                "save()", "restore()",
                "setCorner(0, 0)", "setClass(2, 1)", "paint(7, 7, 1, 1, 15)");
        Calls.answer(map, "tell(L0;)");
        Edge.make(map, "append('F')", "append('1')");
        return map;
    }

    /** Six lines, twelve points, an input of 60 characters and eight changes; nothing is saved. */
    static MapGeneralizer full() {
        MapGeneralizer map = Edge.made("tell(L0,0-5,0;L0,2-5,2;L0,4-5,4;L0,6-5,6;L0,8-5,8;L10,0-11,9;)");
        for (int point = 0; point < 12; point++) {
            Edge.make(map, "addPoint(" + (20 + 3 * point) + ", 40, " + point / 2 + ", 2, 1, 0)");
        }
        for (int i = 0; i < 10; i++) {
            Edge.make(map, "append('F')", "append('0')", "append('" + i % 8 + "')", "append('=')", "append('1')",
                    "append(';')");
        }
        return map;
    }

    /** All that can be asked of a map, its input, its history and what was saved; it is used up then. */
    static String everything(MapGeneralizer map) {
        StringBuilder all = new StringBuilder();
        askMap(map, all);
        askLevels(map, all);
        ask(map, all, "errorPosition()", "append('7')", "append('=')", "append('9')", "append(';')", "read()",
                "errorPosition()", "count(2)", "parcelAt(0, 1, 7)");
        for (int change = 0; change < 10; change++) {
            ask(map, all, "undo()");
            ask(map, all, IN_SHORT);
        }
        ask(map, all, "restore()");
        ask(map, all, IN_SHORT);
        ask(map, all, "point(1, 4)", "setClass(15, 2)", "setStrict(true)", "errorPosition()");
        return all.toString();
    }

    private static void ask(MapGeneralizer map, StringBuilder all, String... calls) {
        for (String call : calls) {
            all.append(call).append(" = ").append(Calls.answer(map, call)).append('\n');
        }
    }

    private static int number(MapGeneralizer map, String call) {
        return Integer.parseInt(Calls.answer(map, call));
    }

    private static void askMap(MapGeneralizer map, StringBuilder all) {
        for (int line = 0; line < number(map, "count(0)"); line++) {
            for (int index = 0; index < number(map, "vertices(0, " + line + ")"); index++) {
                ask(map, all, "vertex(0, " + line + ", " + index + ", false)",
                        "vertex(0, " + line + ", " + index + ", true)");
            }
        }
        for (int point = 0; point < number(map, "count(1)"); point++) {
            for (int what = 0; what < 6; what++) {
                ask(map, all, "point(" + point + ", " + what + ")");
            }
        }
        for (int level = 1; level < 5; level++) {
            for (int setting = 0; setting < 3; setting++) {
                ask(map, all, "setting(" + level + ", " + setting + ")");
            }
        }
        for (int parcel = 0; parcel < 16; parcel += 5) {
            ask(map, all, "area(0, " + parcel + ")", "neighbors(0, " + parcel + ")");
        }
    }

    private static void askLevels(MapGeneralizer map, StringBuilder all) {
        for (int level = 0; level < 5; level++) {
            ask(map, all, "removed(0, " + level + ")", "leftOver(" + level + ")", "parcels(" + level + ", 0)",
                    "outline(" + level + ", 0)", "labels(" + level + ")", "covered(" + level + ")");
        }
        for (int column = 0; column < 8; column++) {
            ask(map, all, "parcelAt(0, " + column + ", 0)", "parcelAt(4, " + column + ", 0)");
        }
        for (int point = 0; point < number(map, "count(1)"); point++) {
            ask(map, all, "position(0, " + point + ")", "placedOn(" + point + ")");
        }
    }
}
