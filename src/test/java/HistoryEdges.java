/** Sentences about history and saving, promises 43 to 45, at their boundaries. */
final class HistoryEdges {
    /** A call of each kind that is a change; read is told with what completes the input of the small sample. */
    private static final String[] CHANGES = {"addPoint(1, 1, 5, 2, 1, 0)", "removeLine(0)", "removePoint(0)",
        "setCorner(1, 2)", "paint(0, 0, 8, 8, 9)", "setClass(1, 3)", "setStrict(true)", "set(4, 1, 20)",
        "tell(7=9;L50,0-60,0;P1,1r5w2h1;)"};

    private HistoryEdges() {
    }

    static void run() {
        changes();
        changesOfNothing();
        noChanges();
        eightChanges();
        turnAround();
        forgotten();
        forgottenByClear();
        notUndone();
        save();
        restore();
    }

    private static void changes() {
        Edge.says(43, "A change is a call of addPoint, removeLine, removePoint, setCorner, paint, setClass,"
                + " setStrict, set or read that returns without an exception.");
        String before = Sample.everything(Sample.small());
        for (String change : CHANGES) {
            MapGeneralizer changed = Sample.small();
            Edge.make(changed, change);
            Edge.due(change + " changes something", false, before.equals(Sample.everything(changed)));
            MapGeneralizer map = Sample.small();
            Edge.make(map, change);
            Edge.on(map, "undo() = 3");
            if (change.startsWith("tell")) {
                Edge.make(map, "append('F')", "append('1')");
            }
            Edge.due(change + " is undone", before, Sample.everything(map));
        }
        Edge.says(43, "Undoes the latest change that is remembered.");
        Edge.onNew("setClass(0, 1) = 0", "setClass(0, 2) = 1", "undo() = 1", "setClass(0, 3) = 1", "undo() = 1",
                "undo() = 0", "setClass(0, 3) = 0");
        Edge.says(43, "Returns the number of changes that are still remembered.");
        Edge.onNew("setStrict(true) = false", "setStrict(true) = true", "setStrict(true) = true", "undo() = 2",
                "undo() = 1", "undo() = 0", "undo() = !element", "setStrict(true) = false", "undo() = 0");
    }

    private static void changesOfNothing() {
        Edge.says(43, "A call of the list under History that changes nothing is a change, too.");
        String[] calls = {"setCorner(0, 0)", "paint(0, 0, 1, 1, 0)", "paint(0, 7, 1, 1, -1)", "setClass(0, 0)",
            "setStrict(false)", "set(4, 0, 32)", "tell(7=9;F17=9;)"};
        for (String call : calls) {
            MapGeneralizer map = Sample.small();
            Edge.make(map, "paint(1, 7, 1, 1, 9)", call);
            Edge.on(map, "undo() = 4", "undo() = 3", "undo() = 2", "undo() = 1", "undo() = 0", "undo() = !element");
        }
    }

    private static void noChanges() {
        Edge.says(43, "Methods whose documentation does not mention a change only answer a question.");
        String[] questions = {"setting(4, 0)", "count(4)", "point(2, 5)", "vertices(4, 0)", "vertex(1, 0, 2, true)",
            "lost(0, 2)", "why(0, 0, 1)", "why(4, 0, 1)", "weight(1, 0, 1)", "removed(0, 4)", "extent(4, 0)",
            "mostSimplified(4)", "lineAt(4, 4, 10)", "parcelAt(4, 0, 0)", "area(4, 2)", "border(0, 0, 1)",
            "neighbors(0, 1)", "became(4, 0)", "parcels(4, 1)", "leftOver(4)", "outline(4, 0)", "shown(4)",
            "position(4, 2)", "refusal(0, 2, 0)", "labels(4)", "labelAt(4, 51, 59)", "covered(4)", "placedShare(4)",
            "placedOn(2)", "errorPosition()", "describe(1, 0, 3)"};
        String before = Sample.everything(Sample.small());
        MapGeneralizer all = Sample.small();
        for (String question : questions) {
            MapGeneralizer map = Sample.small();
            Edge.make(map, question, question);
            Edge.make(all, question);
            Edge.due(question, before, Sample.everything(map));
        }
        Edge.due("all questions", before, Sample.everything(all));
    }

    private static void eightChanges() {
        Edge.says(43, "The object remembers everything except the input, the error position and what was saved before"
                + " the last 8 changes.");
        for (int changes = 0; changes <= 17; changes++) {
            MapGeneralizer map = new MapGeneralizer();
            for (int value = 1; value <= changes; value++) {
                Edge.make(map, "set(4, 0, " + (100 + value) + ")");
            }
            int remembered = Math.min(changes, 8);
            for (int left = remembered - 1; left >= 0; left--) {
                int value = changes - remembered + left;
                Edge.on(map, "undo() = " + left, "setting(4, 0) = " + (value == 0 ? 32 : 100 + value));
            }
            Edge.on(map, "undo() = !element", "undo() = !element");
        }
        Edge.says(43, "Throws `NoSuchElementException` if no change is remembered");
        Edge.onNew("undo() = !element", "setStrict(false) = false", "undo() = 0", "undo() = !element",
                "removeLine(0) = !index", "undo() = !element");
    }

    private static void turnAround() {
        Edge.says(43, "Undoes the latest change that is remembered.");
        MapGeneralizer map = new MapGeneralizer();
        for (int value = 1; value <= 12; value++) {
            Edge.make(map, "set(4, 0, " + (100 + value) + ")");
        }
        Edge.on(map, "undo() = 7", "undo() = 6", "undo() = 5", "setting(4, 0) = 109");
        for (int value = 1; value <= 5; value++) {
            Edge.make(map, "set(4, 0, " + (200 + value) + ")");
        }
        String[] values = {"204", "203", "202", "201", "109", "108", "107", "106"};
        for (int i = 0; i < 8; i++) {
            Edge.on(map, "undo() = " + (7 - i), "setting(4, 0) = " + values[i]);
        }
        Edge.on(map, "undo() = !element", "setting(4, 0) = 106");
    }

    /** Each change can be undone after seven more, and is forgotten after eight. */
    private static void forgotten() {
        Edge.says(43, "before the last 8 changes.");
        for (String change : CHANGES) {
            MapGeneralizer map = Sample.small();
            String before = inShort(map);
            Edge.make(map, change);
            String after = inShort(map);
            changeEmptyParcel(map, 7);
            checkUndone(map, 7, change, after);
            Edge.on(map, "undo() = 0");
            Edge.due(change + " is undone last", before, inShort(map));

            MapGeneralizer later = Sample.small();
            Edge.make(later, change);
            changeEmptyParcel(later, 8);
            checkUndone(later, 8, change, after);
            Edge.on(later, "undo() = !element");
            Edge.due(change + " is forgotten", after, inShort(later));
        }
    }

    private static void changeEmptyParcel(MapGeneralizer map, int times) {
        for (int i = 0; i < times; i++) {
            Edge.make(map, "setClass(14, " + i % 4 + ")");
        }
    }

    private static void checkUndone(MapGeneralizer map, int times, String change, String after) {
        for (int i = 1; i <= times; i++) {
            Edge.on(map, "undo() = " + (8 - i));
            Edge.due(change + " stays", after, inShort(map));
        }
    }

    private static String inShort(MapGeneralizer map) {
        StringBuilder all = new StringBuilder();
        for (String call : new String[] {"count(0)", "count(1)", "count(2)", "count(3)", "count(4)", "parcels(0, 3)",
            "setting(4, 1)", "point(1, 5)", "point(0, 0)", "leftOver(4)", "parcels(4, -1)"}) {
            all.append(Calls.answer(map, call)).append(' ');
        }
        return all.toString();
    }

    private static void forgottenByClear() {
        Edge.says(43, "clear and restore forget them.");
        Edge.onNew("setStrict(true) = false", "setStrict(true) = true", "clear() = 0", "undo() = !element",
                "setStrict(true) = false", "undo() = 0", "undo() = !element");
        Edge.onNew("save() = 0", "setStrict(true) = false", "undo() = 0", "setStrict(true) = false", "restore() = 0",
                "undo() = !element", "setStrict(true) = false", "undo() = 0", "undo() = !element");
        for (String call : new String[] {"clear()", "restore()"}) {
            MapGeneralizer map = Edge.made("save()");
            for (int i = 0; i < 9; i++) {
                Edge.make(map, "setClass(0, " + i % 4 + ")");
            }
            Edge.make(map, call);
            Edge.on(map, "undo() = !element");
            for (int i = 0; i < 9; i++) {
                Edge.make(map, "setClass(0, " + i % 4 + ")");
            }
            Edge.on(map, "undo() = 7", call + " = 0", "undo() = !element");
        }
        Edge.onNew("setStrict(true) = false", "restore() = !state", "save() = 0", "undo() = 0", "undo() = !element");
    }

    private static void notUndone() {
        Edge.says(43, "everything except the input, the error position and what was saved");
        Edge.onNew("setStrict(true) = false", "append('F') = 1", "undo() = 0", "append('1') = 2", "append('1') = 3",
                "append('=') = 4", "append('5') = 5", "append(';') = 6", "read() = 1", "undo() = 0", "append('F') = 1",
                "undo() = !element", "append('F') = 2");
        Edge.onNew("setStrict(true) = false", "tell(F9) = !argument", "undo() = 0", "errorPosition() = 1");
        Edge.onNew("setClass(0, 1) = 0", "save() = 0", "undo() = 0", "restore() = 0", "setClass(0, 2) = 1");
        Edge.onNew("setClass(0, 1) = 0", "save() = 0", "setClass(0, 2) = 1", "save() = 0", "undo() = 1", "undo() = 0",
                "restore() = 0", "setClass(0, 3) = 2");
    }

    private static void save() {
        Edge.says(44, "Saves everything except the input, the error position and what was saved before, which is"
                + " replaced.");
        MapGeneralizer map = Sample.small();
        Edge.on(map, "save() = 3", "clear() = 3", "restore() = 3", "count(1) = 3", "count(3) = 56", "count(4) = 10",
                "point(0, 5) = 0", "point(2, 3) = 12", "parcelAt(0, 7, 7) = 15", "setting(4, 0) = 32",
                "text(0, 2) = L40,40-42,44-44,40;", "parcels(0, 1) = 1", "parcels(0, 3) = 1", "errorPosition() = 2",
                "append('7') = 3", "undo() = !element");
        Edge.onNew("set(4, 0, 500) = 32", "set(4, 1, 20) = 4", "set(4, 2, 9) = 4", "set(1, 0, 0) = 8",
                "setStrict(true) = false",
                "setClass(15, 3) = 0", "save() = 0", "clear() = 0", "setClass(0, 2) = 0", "restore() = 0",
                "setting(4, 0) = 500", "setting(4, 1) = 20", "setting(4, 2) = 9", "setting(1, 0) = 0",
                "setStrict(false) = true", "setClass(15, 0) = 3", "setClass(0, 0) = 0");
        Edge.onNew("tell(F9) = !argument", "save() = 0", "tell(X) = !argument", "restore() = 0", "errorPosition() = 0");
        Edge.onNew("append('F') = 1", "save() = 0", "append('1') = 2", "restore() = 0", "append('2') = 3");
        Edge.says(44, "what was saved before, which is replaced.");
        Edge.on(Edge.made("tell(L0,0-5,0;L0,2-5,2;)"), "save() = 2", "removeLine(0) = 1", "save() = 1", "clear() = 1",
                "restore() = 1", "text(0, 0) = L0,2-5,2;", "removeLine(0) = 0", "save() = 0", "restore() = 0",
                "count(0) = 0");
        Edge.says(44, "Returns the number of lines.");
        Edge.onNew("save() = 0", "save() = 0");
        Edge.on(Sample.full(), "save() = 6", "restore() = 6", "count(1) = 12", "undo() = !element", "removeLine(0) = 5",
                "save() = 5", "restore() = 5");
    }

    private static void restore() {
        Edge.says(45, "Throws `IllegalStateException` if nothing was saved");
        Edge.onNew("restore() = !state", "clear() = 0", "restore() = !state", "save() = 0", "restore() = 0",
                "clear() = 0", "restore() = 0");
        Edge.says(45, "It stays saved.");
        Edge.on(Edge.made("tell(L0,0-5,0;)", "save()"), "removeLine(0) = 0", "restore() = 1", "removeLine(0) = 0",
                "tell(L9,9-8,8;) = 1", "restore() = 1", "text(0, 0) = L0,0-5,0;", "setClass(0, 3) = 0", "restore() = 1",
                "setClass(0, 1) = 0", "restore() = 1", "setStrict(true) = false", "restore() = 1",
                "setStrict(true) = false", "restore() = 1", "set(4, 0, 33) = 32", "restore() = 1", "setting(4, 0) = 32",
                "addPoint(30, 30, 5, 2, 1, 0) = 0", "restore() = 1", "count(1) = 0", "paint(0, 0, 1, 1, 0) = 1",
                "restore() = 1", "count(3) = 64");
        Edge.says(45, "Restores what was saved.");
        String first = Sample.everything(Sample.small());
        MapGeneralizer map = Sample.small();
        Edge.make(map, "restore()");
        Edge.due("something else was saved", false, first.equals(Sample.everything(map)));
        Edge.on(Edge.made("tell(L0,0-4,1-8,0;)", "save()", "set(1, 0, 0)"), "vertices(1, 0) = 3", "restore() = 1",
                "vertices(1, 0) = 2", "addPoint(4, 0, 5, 2, 1, 0) = 0", "vertices(1, 0) = 3", "restore() = 1",
                "vertices(1, 0) = 2");
        Edge.says(45, "Returns the number of lines.");
        Edge.onNew("save() = 0", "tell(L0,0-5,0;) = 1", "restore() = 0", "count(0) = 0");
        Edge.on(Sample.full(), "save() = 6", "clear() = 6", "restore() = 6");
        Edge.says(45, "clear and restore forget them.");
        Edge.onNew("save() = 0", "setClass(0, 1) = 0", "restore() = 0", "undo() = !element", "setClass(0, 1) = 0",
                "undo() = 0");
    }
}
