import java.util.NoSuchElementException;

/** Promises 39 to 45: texts, history and saving. */
public final class TextsTest {
    private static final Class<IllegalArgumentException> ARGUMENT = IllegalArgumentException.class;
    private static final Class<IllegalStateException> STATE = IllegalStateException.class;
    private static final Class<IndexOutOfBoundsException> INDEX = IndexOutOfBoundsException.class;
    private static final Class<UnsupportedOperationException> UNSUPPORTED = UnsupportedOperationException.class;
    private static final Class<NoSuchElementException> NO_ELEMENT = NoSuchElementException.class;
    private static final String SIX_LINES = "L0,0-5,0;L0,2-5,2;L0,4-5,4;L0,6-5,6;L0,8-5,8;L10,0-10,9;";

    public static void main(String[] args) {
        append();
        read();
        readLines();
        readTooMuch();
        readOrder();
        errorPosition();
        errorPositions();
        describe();
        undo();
        undoEach();
        save();
        restore();
        Check.finish();
    }

    private static void append() {
        MapGeneralizer map = new MapGeneralizer();
        int[] wrong = {0, 10, 31, 127, 255, 65535};
        for (int code : wrong) {
            Check.refused("39: code " + code, ARGUMENT, () -> map.append((char) code));
        }
        Check.due("39: code 32", 1, map.append((char) 32));
        Check.due("39: code 126", 2, map.append((char) 126));
        for (int length = 3; length <= 60; length++) {
            Check.due("39: a character more", length, map.append('L'));
        }
        Check.refused("39: the 61st", STATE, () -> map.append('L'));
        Check.refused("39: the 61st, out of range", ARGUMENT, () -> map.append((char) 31));
        Check.refused("39: it is no text", ARGUMENT, map::read);
        Check.due("39: the input is empty then", 1, map.append('L'));
    }

    private static void read() {
        MapGeneralizer map = new MapGeneralizer();
        Check.due("40: three entries", 3, Check.tell(map, "F77=15;P1,2r3w12h4;L0,63-63,0;"));
        Check.due("40: the field", 15, map.parcelAt(0, 7, 7));
        int[] point = {1, 2, 3, 12, 4, 0};
        for (int what = 0; what < 6; what++) {
            Check.due("40: the point", point[what], map.point(0, what));
        }
        Check.due("40: the line", "L0,63-63,0;", Check.textOf(map, 0, 0));
        Check.due("40: the input is empty", 1, map.append('F'));
        Check.due("40: column and row", 1, Check.tell(map, "25=0;"));
        Check.due("40: column and row", 0, map.parcelAt(0, 2, 5));
        Check.due("40: a field changes hands", 2, Check.tell(map, "F25=10;F25=9;"));
        Check.due("40: the last one counts", 9, map.parcelAt(0, 2, 5));
        Check.refused("40: an empty input", ARGUMENT, map::read);
        Check.due("40: ten vertices", 1, Check.tell(map, "L0,0-1,1-2,0-3,1-4,0-5,1-6,0-7,1-8,0-9,1;"));
        Check.due("40: ten vertices", 10, map.vertices(0, 1));
    }

    private static void readLines() {
        String[] wrong = {"L0,0-0,0;", "L0,0-9,0-5,0;", "L0,0-5,0-0,0;", "L0,0-5,0-9,0-2,0;", "L0,0-4,0-4,4-0,0;",
            "L0,0-4,0-4,4-2,4-2,0;", "L0,0-4,4-4,0-0,4;", "L0,5-9,5;L5,0-5,9;", "L0,0-5,5;L5,5-9,9;",
            "L5,5-9,9;L0,0-5,5;",
            "L0,0-6,6;L3,3-9,0;", "L0,0-6,0;L3,0-9,0;", "L0,0-9,0;L3,0-5,0;", "L0,0-5,5-5,5-9,0;",
            "P3,3r1w2h1;L0,0-5,5;", "P5,5r1w2h1;L0,0-5,5;", "F00=1;L0,0-0,0;"};
        for (String text : wrong) {
            MapGeneralizer map = new MapGeneralizer();
            Check.refused("40: " + text, UNSUPPORTED, () -> Check.tell(map, text));
            Check.due("40: nothing of it", 0, map.count(0) + map.count(1) + map.count(2));
            Check.due("40: the input is empty", 1, map.append('F'));
            Check.refused("40: it is no change", NO_ELEMENT, map::undo);
            Check.refused("40: no error position", NO_ELEMENT, map::errorPosition);
        }
        String[] right = {"L0,0-5,0-9,0;", "L0,0-6,0;L7,0-9,0;", "L0,0-9,9;L0,1-8,9;", "L0,0-4,0-4,4-2,4-2,1;",
            "L0,0-9,1;L9,0-5,0;", "P6,6r1w2h1;L0,0-5,5;"};
        for (String text : right) {
            Check.due("40: " + text, text.split(";").length, Check.tell(new MapGeneralizer(), text));
        }
    }

    private static void readTooMuch() {
        MapGeneralizer map = Check.mapOf(SIX_LINES);
        Check.refused("40: a seventh line", STATE, () -> Check.tell(map, "L20,0-25,5;"));
        Check.refused("40: a seventh one that crosses", UNSUPPORTED, () -> Check.tell(map, "L1,1-1,3;"));
        Check.due("40: six lines", 6, map.count(0));
        Check.refused("40: a point on a line", STATE, () -> Check.tell(map, "P3,0r1w2h1;"));
        Check.refused("40: a point twice", STATE, () -> Check.tell(map, "P3,1r1w2h1;P3,1r2w3h1;"));
        Check.refused("40: a point on a line of the same text", STATE,
                () -> Check.tell(new MapGeneralizer(), "L0,0-5,5;P3,3r1w2h1;"));
        for (int i = 0; i < 12; i++) {
            map.addPoint(20 + i, 30, 1, 2, 1, 0);
        }
        Check.refused("40: a 13th point", STATE, () -> Check.tell(map, "P3,1r1w2h1;"));
        Check.due("40: twelve points", 12, map.count(1));
    }

    private static void readOrder() {
        MapGeneralizer map = Check.mapOf(SIX_LINES);
        Check.refused("40: the first one decides", STATE, () -> Check.tell(map, "P3,0r1w2h1;L1,1-1,3;"));
        Check.refused("40: the first one decides", UNSUPPORTED, () -> Check.tell(map, "L1,1-1,3;P3,0r1w2h1;"));
        Check.refused("40: what is no text comes before", ARGUMENT, () -> Check.tell(map, "L1,1-1,3;P3,0r1w2h1"));
        Check.refused("40: nothing of the first entries", STATE, () -> Check.tell(map, "F00=1;P3,1r1w2h1;P3,0r1w2h1;"));
        Check.due("40: no field", 64, map.count(3));
        Check.due("40: no point", 0, map.count(1));
    }

    private static void errorPosition() {
        MapGeneralizer map = new MapGeneralizer();
        Check.refused("41: none was kept", NO_ELEMENT, map::errorPosition);
        Check.refused("41: no text", ARGUMENT, () -> Check.tell(map, "F09=1;"));
        Check.due("41: errorPosition()", 2, map.errorPosition());
        Check.tell(map, "F00=1;");
        Check.due("41: it stays when a later text is right", 2, map.errorPosition());
        Check.refused("41: a line", UNSUPPORTED, () -> Check.tell(map, "L0,0-0,0;"));
        Check.due("41: it stays when a line is refused", 2, map.errorPosition());
        map.undo();
        map.save();
        map.restore();
        map.clear();
        Check.due("41: it stays with all else", 2, map.errorPosition());
        Check.refused("41: no text", ARGUMENT, () -> Check.tell(map, "L0,0"));
        Check.due("41: the last one counts", 4, map.errorPosition());
    }

    private static void errorPositions() {
        Object[][] cases = {{"", 0}, {"X", 0}, {"l", 0}, {" ", 0}, {";", 0}, {"L", 1}, {"L1", 2}, {"L1,", 3},
            {"L1,1", 4}, {"L1,1-", 5}, {"L1,1;", 4}, {"L01,1", 2}, {"L64,1", 2}, {"L63,631", 6}, {"L70,1", 2},
            {"L1,64", 4},
            {"L1,1-2,2", 8}, {"L1,1-2,2;;", 9}, {"L1,1-2,2;L", 10}, {"L-1,1", 1}, {"L1.1", 2}, {"L1,1--", 5},
            {"L0,0-1,0-2,0-3,0-4,0-5,0-6,0-7,0-8,0-9,0-0,9;", 40}, {"L1,1-2,2 ;", 8}, {"L1,1-2,00;", 8},
            {"P1,2r3w1;", 8}, {"P1,2r10w2h1;", 6}, {"P1,2r3w0", 7}, {"P1,2r3w13", 8}, {"P1,2r3w20", 8},
            {"P1,2r3w12h0", 10}, {"P1,2r3w12h5", 10}, {"P1,2r3w12h41", 11}, {"P1,2r3w2h1", 10}, {"P1,2w", 4},
            {"P1,2r3w1", 8}, {"P1,2r3w02", 7}, {"P1,2rr", 5}, {"P1,2-", 4}, {"P64,2", 2}, {"P1,2r3w10h4;Q", 12},
            {"F8", 1}, {"F08", 2}, {"F00=16;", 5}, {"F00=01;", 5}, {"F00=-1", 4}, {"F000", 3}, {"F00=1 ;", 5},
            {"F00=15", 6}, {"F00=1", 5}, {"F00=150", 6}, {"F00=", 4}, {"F00=20;", 5}, {"F0,0", 2},
            {"F00=1;F00=2;f", 12}, {"L0,0-0,0;X", 9}, {"L1,1-2,2-63,6", 13}};
        for (Object[] one : cases) {
            MapGeneralizer map = new MapGeneralizer();
            Check.refused("41: " + one[0], ARGUMENT, () -> Check.tell(map, (String) one[0]));
            Check.due("41: " + one[0], one[1], map.errorPosition());
        }
        MapGeneralizer full = new MapGeneralizer();
        Check.refused("41: 60 characters", ARGUMENT, () -> Check.tell(full, "F00=1;".repeat(9) + "L10,10"));
        Check.due("41: 60 characters", 60, full.errorPosition());
    }

    private static void describe() {
        MapGeneralizer map = Check.mapOf("L0,10-4,11-8,10-9,14-12,10;", "L10,20-11,21-12,20-13,21-14,20-15,21-16,20;");
        Check.due("42: level 0", "L0,10-4,11-8,10-9,14-12,10;", Check.textOf(map, 0, 0));
        Check.due("42: its length", 27, map.describe(0, 0, -1));
        Check.due("42: level 4", "L0,10-12,10;", Check.textOf(map, 4, 0));
        Check.due("42: its length", 12, map.describe(4, 0, -1));
        Check.due("42: the first character", (int) 'L', map.describe(4, 0, 0));
        Check.due("42: the last character", (int) ';', map.describe(4, 0, 11));
        Check.refused("42: behind the last", NO_ELEMENT, () -> map.describe(4, 0, 12));
        Check.refused("42: index -2", NO_ELEMENT, () -> map.describe(4, 0, -2));
        Check.refused("42: index far behind", NO_ELEMENT, () -> map.describe(0, 0, Integer.MAX_VALUE));
        Check.refused("42: line 2", INDEX, () -> map.describe(0, 2, -2));
        Check.refused("42: line -1", INDEX, () -> map.describe(0, -1, -1));
        Check.refused("42: level 5", ARGUMENT, () -> map.describe(5, 2, -2));
        Check.refused("42: level -1", ARGUMENT, () -> map.describe(-1, 0, -1));
        String longest = "L10,20-11,21-12,20-13,21-14,20-15,21-16,20-17,21-18,20-9,63;";
        Check.due("42: the longest text that can be read", longest, Check.textOf(Check.mapOf(longest), 0, 0));
    }

    private static void undo() {
        MapGeneralizer map = new MapGeneralizer();
        Check.refused("43: nothing to undo", NO_ELEMENT, map::undo);
        for (int i = 0; i < 10; i++) {
            map.addPoint(i, 0, 1, 2, 1, 0);
        }
        for (int left = 7; left >= 0; left--) {
            Check.due("43: undo()", left, map.undo());
            Check.due("43: points then", 2 + left, map.count(1));
        }
        Check.refused("43: no more than 8", NO_ELEMENT, map::undo);
        Check.due("43: what is left", 2, map.count(1));
        map.setCorner(0, 0);
        map.setStrict(false);
        map.set(1, 0, 8);
        map.setClass(1, 0);
        map.paint(0, 0, 1, 1, -1);
        Check.due("43: calls that change nothing are changes", 4, map.undo());
        Check.refused("43: a refused call", ARGUMENT, () -> map.count(9));
        Check.refused("43: is no change", INDEX, () -> map.removePoint(7));
        Check.due("43: questions and refused calls are none", 3, map.undo());
        map.append('F');
        map.undo();
        Check.due("43: the input stays", 2, map.append('0'));
    }

    private static void undoEach() {
        MapGeneralizer map = Check.mapOf("L0,0-5,0;L0,2-5,2;P30,30r5w4h2;F00=1;");
        map.undo();
        Check.due("43: read is one change", 0, map.count(0) + map.count(1) + map.count(2));
        Check.tell(map, "L0,0-4,1-8,0;L0,2-5,2;P30,30r5w4h2;F00=1;");
        Check.due("43: a level before", 2, map.vertices(1, 0));
        map.addPoint(4, 0, 0, 2, 1, 0);
        Check.due("43: a level with the point", 3, map.vertices(1, 0));
        map.undo();
        Check.due("43: a level without it again", 2, map.vertices(1, 0));
        map.removeLine(0);
        map.undo();
        Check.due("43: the line is there again", "L0,0-4,1-8,0;", Check.textOf(map, 0, 0));
        map.removePoint(0);
        map.undo();
        Check.due("43: the point is there again", 30, map.point(0, 0));
        map.setCorner(0, 3);
        map.undo();
        Check.due("43: the corner", 0, map.point(0, 5));
        map.paint(0, 0, 8, 8, 5);
        map.undo();
        Check.due("43: the fields", 63, map.count(3));
        map.setClass(1, 3);
        map.undo();
        Check.due("43: the class", 1, map.parcels(0, 0));
        map.set(1, 0, 16);
        map.undo();
        Check.due("43: the setting", 8, map.setting(1, 0));
        map.setStrict(true);
        map.undo();
        Check.due("43: strict", false, map.setStrict(false));
    }

    private static void save() {
        MapGeneralizer map = Check.mapOf("L0,0-5,0;L0,2-5,2;");
        Check.due("44: save()", 2, map.save());
        map.removeLine(0);
        Check.due("44: save() again", 1, map.save());
        Check.due("44: it is no change", 1, map.undo());
        Check.due("44: two lines again", 2, map.count(0));
        Check.due("44: the second one replaced the first", 1, map.restore());
        Check.due("44: its line", "L0,2-5,2;", Check.textOf(map, 0, 0));
        Check.due("44: save() of nothing", 0, new MapGeneralizer().save());
    }

    private static void restore() {
        MapGeneralizer map = new MapGeneralizer();
        Check.refused("45: nothing was saved", STATE, map::restore);
        Check.tell(map, "L0,0-4,1-8,0;P30,30r5w4h2;F00=1;");
        map.setClass(1, 2);
        map.setStrict(true);
        map.set(4, 0, 77);
        map.save();
        map.clear();
        map.append('F');
        Check.due("45: restore()", 1, map.restore());
        Check.due("45: the line", "L0,0-4,1-8,0;", Check.textOf(map, 0, 0));
        Check.due("45: its level", "L0,0-8,0;", Check.textOf(map, 1, 0));
        Check.due("45: the point", 30, map.point(0, 1));
        Check.due("45: the field", 1, map.parcelAt(0, 0, 0));
        Check.due("45: the setting", 77, map.setting(4, 0));
        Check.refused("45: no change is remembered", NO_ELEMENT, map::undo);
        Check.due("45: the input stays", 2, map.append('0'));
        Check.due("45: the class", 2, map.setClass(1, 0));
        Check.due("45: strict", true, map.setStrict(false));
        Check.due("45: two changes", 1, map.undo());
        map.removeLine(0);
        Check.due("45: it stays saved", 1, map.restore());
        Check.due("45: as it was", 2, map.setClass(1, 2));
    }
}
