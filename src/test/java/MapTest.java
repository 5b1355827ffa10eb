import java.util.Arrays;
import java.util.NoSuchElementException;

/** Promises 1 to 13: a new object, and the map. */
public final class MapTest {
    private static final Class<IllegalArgumentException> ARGUMENT = IllegalArgumentException.class;
    private static final Class<IllegalStateException> STATE = IllegalStateException.class;
    private static final Class<IndexOutOfBoundsException> INDEX = IndexOutOfBoundsException.class;
    private static final Class<UnsupportedOperationException> UNSUPPORTED = UnsupportedOperationException.class;
    private static final int LEAST = Integer.MIN_VALUE;
    private static final int MOST = Integer.MAX_VALUE;

    public static void main(String[] args) {
        newObject();
        clear();
        addPoint();
        addPointRefused();
        removeLine();
        removePoint();
        setCorner();
        paint();
        setClass();
        setStrict();
        set();
        setting();
        count();
        point();
        Check.finish();
    }

    private static void newObject() {
        MapGeneralizer map = new MapGeneralizer();
        int[] counts = {0, 0, 0, 64, 0};
        for (int what = 0; what < 5; what++) {
            Check.due("1: count(" + what + ") of a new object", counts[what], map.count(what));
        }
        for (int level = 0; level < 5; level++) {
            Check.due("1: tolerance of level " + level, 8 * level, map.setting(level, 0));
            Check.due("1: least area of level " + level, level, map.setting(level, 1));
            Check.due("1: least rank of level " + level, level, map.setting(level, 2));
            Check.due("1: points shown on level " + level, 0, map.shown(level));
            Check.due("1: removed up to level " + level, 0, map.removed(0, level));
        }
        Check.due("1: not strict", false, map.setStrict(false));
        Check.due("1: class of parcel 15", 0, map.setClass(15, 0));
    }

    private static void clear() {
        MapGeneralizer map = Check.mapOf("L0,0-5,5;L10,0-15,5;P30,30r5w4h2;F00=3;");
        map.setClass(3, 2);
        map.setStrict(true);
        map.set(4, 0, 500);
        map.set(4, 1, 20);
        map.set(4, 2, 9);
        map.append('F');
        Check.due("2: clear()", 2, map.clear());
        Check.due("2: lines after clear", 0, map.count(0));
        Check.due("2: points after clear", 0, map.count(1));
        Check.due("2: parcels after clear", 0, map.count(2));
        Check.due("2: fields after clear", 64, map.count(3));
        Check.due("2: tolerance after clear", 32, map.setting(4, 0));
        Check.due("2: least area after clear", 4, map.setting(4, 1));
        Check.due("2: least rank after clear", 4, map.setting(4, 2));
        Check.refused("2: clear forgets changes", NoSuchElementException.class, map::undo);
        Check.due("2: class after clear", 0, map.setClass(3, 1));
        Check.due("2: merging is not strict after clear", false, map.setStrict(true));
        Check.due("2: the input stays with clear", 2, map.append('0'));
        Check.due("2: clear() again", 0, map.clear());
    }

    private static void addPoint() {
        MapGeneralizer map = new MapGeneralizer();
        Check.due("3: the least numbers", 0, map.addPoint(0, 0, 0, 2, 1, 0));
        Check.due("3: the greatest numbers", 1, map.addPoint(63, 63, 9, 12, 4, 3));
        int[] want = {63, 63, 9, 12, 4, 3};
        for (int what = 0; what < 6; what++) {
            Check.due("3: number " + what + " of the point", want[what], map.point(1, what));
        }
        for (int i = 2; i < 12; i++) {
            Check.due("3: a point more", i, map.addPoint(i, 0, 1, 2, 1, 0));
        }
        Check.refused("3: a 13th point", STATE, () -> map.addPoint(40, 40, 1, 2, 1, 0));
        Check.refused("3: a 13th point where one is", UNSUPPORTED, () -> map.addPoint(0, 0, 1, 2, 1, 0));
        Check.refused("3: a 13th point out of range", ARGUMENT, () -> map.addPoint(64, 0, 1, 2, 1, 0));
        Check.due("3: points after refusals", 12, map.count(1));
    }

    private static void addPointRefused() {
        MapGeneralizer map = Check.mapOf("L0,10-4,11-8,10;");
        Check.refused("3: on a vertex", UNSUPPORTED, () -> map.addPoint(4, 11, 1, 2, 1, 0));
        Check.refused("3: on the last vertex", UNSUPPORTED, () -> map.addPoint(8, 10, 1, 2, 1, 0));
        Check.refused("3: on the first vertex", UNSUPPORTED, () -> map.addPoint(0, 10, 1, 2, 1, 0));
        MapGeneralizer turned = Check.mapOf("L8,10-0,10;");
        Check.refused("3: on its last vertex", UNSUPPORTED, () -> turned.addPoint(0, 10, 1, 2, 1, 0));
        Check.refused("3: on its first vertex", UNSUPPORTED, () -> turned.addPoint(8, 10, 1, 2, 1, 0));
        Check.due("3: before it", 0, turned.addPoint(9, 10, 1, 2, 1, 0));
        Check.tell(map, "L20,0-26,3;");
        Check.refused("3: within a segment", UNSUPPORTED, () -> map.addPoint(22, 1, 1, 2, 1, 0));
        Check.due("3: beside a segment", 0, map.addPoint(22, 2, 1, 2, 1, 0));
        Check.due("3: in its straight line, but behind its end", 1, map.addPoint(28, 4, 1, 2, 1, 0));
        Check.due("3: where the line of level 1 is, but not that of level 0", 2, map.addPoint(4, 10, 1, 2, 1, 0));
        int[][] wrong = {{-1, 0, 0, 2, 1, 0}, {64, 0, 0, 2, 1, 0}, {0, -1, 0, 2, 1, 0}, {0, 64, 0, 2, 1, 0},
            {0, 0, -1, 2, 1, 0}, {0, 0, 10, 2, 1, 0}, {0, 0, 0, 1, 1, 0}, {0, 0, 0, 13, 1, 0}, {0, 0, 0, 2, 0, 0},
            {0, 0, 0, 2, 5, 0}, {0, 0, 0, 2, 1, -1}, {0, 0, 0, 2, 1, 4}, {LEAST, MOST, LEAST, MOST, LEAST, MOST},
            {4, 11, 10, 2, 1, 0}};
        for (int[] n : wrong) {
            Check.refused("3: out of range " + Arrays.toString(n), ARGUMENT,
                    () -> map.addPoint(n[0], n[1], n[2], n[3], n[4], n[5]));
        }
        Check.due("3: points", 3, map.count(1));
    }

    private static void removeLine() {
        MapGeneralizer map = Check.mapOf("L0,0-5,0;L0,2-5,2;L0,4-5,4-6,9;");
        for (int line : new int[] {-1, 3, LEAST, MOST}) {
            Check.refused("4: removeLine(" + line + ")", INDEX, () -> map.removeLine(line));
        }
        Check.due("4: removeLine(1)", 2, map.removeLine(1));
        Check.due("4: the later one moved", "L0,4-5,4-6,9;", Check.textOf(map, 0, 1));
        Check.due("4: the earlier one stayed", "L0,0-5,0;", Check.textOf(map, 0, 0));
        Check.due("4: vertices", 5, map.count(4));
        Check.due("4: removeLine(1) again", 1, map.removeLine(1));
        Check.due("4: the last line", 0, map.removeLine(0));
        Check.refused("4: without lines", INDEX, () -> map.removeLine(0));
        MapGeneralizer full = Check.mapOf("L0,0-5,0;L0,2-5,2;L0,4-5,4;L0,6-5,6;L0,8-5,8;", "L0,10-5,10;");
        Check.due("4: the sixth of six", 5, full.removeLine(5));
        Check.due("4: the first of five", 4, full.removeLine(0));
        Check.due("4: what was second is first", "L0,2-5,2;", Check.textOf(full, 0, 0));
    }

    private static void removePoint() {
        MapGeneralizer map = new MapGeneralizer();
        for (int i = 0; i < 12; i++) {
            map.addPoint(5 * i, 7, i % 10, 2, 1, i % 4);
        }
        for (int point : new int[] {-1, 12, LEAST, MOST}) {
            Check.refused("5: removePoint(" + point + ")", INDEX, () -> map.removePoint(point));
        }
        Check.due("5: removePoint(11)", 11, map.removePoint(11));
        Check.due("5: removePoint(3)", 10, map.removePoint(3));
        Check.due("5: the later one moved", 20, map.point(3, 0));
        Check.due("5: with its rank", 4, map.point(3, 2));
        Check.due("5: the earlier one stayed", 10, map.point(2, 0));
        Check.due("5: its place is free", 10, map.addPoint(15, 7, 1, 2, 1, 0));
    }

    private static void setCorner() {
        MapGeneralizer map = new MapGeneralizer();
        map.addPoint(30, 30, 5, 4, 2, 1);
        Check.due("6: setCorner(0, 3)", 1, map.setCorner(0, 3));
        Check.due("6: position then", 3, map.position(0, 0));
        Check.due("6: setCorner(0, 0)", 3, map.setCorner(0, 0));
        Check.due("6: corner then", 0, map.point(0, 5));
        Check.refused("6: corner -1", ARGUMENT, () -> map.setCorner(0, -1));
        Check.refused("6: corner 4", ARGUMENT, () -> map.setCorner(0, 4));
        Check.refused("6: no such point", INDEX, () -> map.setCorner(1, 0));
        Check.refused("6: no such point and corner", INDEX, () -> map.setCorner(-1, 4));
        Check.due("6: changes that are remembered", 2, map.undo());
    }

    private static void paint() {
        MapGeneralizer map = new MapGeneralizer();
        Check.due("7: all fields", 64, map.paint(0, 0, 8, 8, 0));
        Check.due("7: a rectangle", 6, map.paint(2, 5, 3, 2, 15));
        Check.due("7: its fields", "00000000/".repeat(5) + "00fff000/00fff000/00000000/", Check.fieldsOf(map, 0));
        Check.due("7: none", 2, map.paint(4, 4, 1, 2, -1));
        Check.due("7: parcel 15 then", 5, map.area(0, 15));
        Check.due("7: a corner", 1, map.paint(7, 7, 1, 1, 3));
        Check.due("7: it adds to the parcel", 13, map.paint(0, 7, 8, 1, 15));
        int[][] wrong = {{-1, 0, 1, 1, 0}, {8, 0, 1, 1, 0}, {0, -1, 1, 1, 0}, {0, 8, 1, 1, 0}, {0, 0, 0, 1, 0},
            {0, 0, 1, 0, 0}, {0, 0, -1, 1, 0}, {0, 0, 9, 1, 0}, {0, 0, 1, 9, 0}, {7, 0, 2, 1, 0}, {0, 7, 1, 2, 0},
            {0, 0, 1, 1, -2}, {0, 0, 1, 1, 16}, {1, 1, MOST, MOST, 0}, {MOST, MOST, MOST, MOST, 0},
            {LEAST, LEAST, LEAST, LEAST, LEAST}};
        for (int[] n : wrong) {
            Check.refused("7: out of range " + Arrays.toString(n), ARGUMENT,
                    () -> map.paint(n[0], n[1], n[2], n[3], n[4]));
        }
        Check.due("7: fields without a parcel", 2, map.count(3));
    }

    private static void setClass() {
        MapGeneralizer map = new MapGeneralizer();
        Check.due("8: setClass(15, 3)", 0, map.setClass(15, 3));
        Check.due("8: setClass(15, 1)", 3, map.setClass(15, 1));
        map.paint(0, 0, 1, 1, 15);
        Check.due("8: parcels of the class", 1, map.parcels(0, 1));
        Check.refused("8: class -1", ARGUMENT, () -> map.setClass(0, -1));
        Check.refused("8: class 4", ARGUMENT, () -> map.setClass(0, 4));
        Check.refused("8: parcel 16", INDEX, () -> map.setClass(16, 0));
        Check.refused("8: parcel -1 and class 4", INDEX, () -> map.setClass(-1, 4));
    }

    private static void setStrict() {
        MapGeneralizer map = new MapGeneralizer();
        Check.due("9: setStrict(true)", false, map.setStrict(true));
        Check.due("9: setStrict(true) again", true, map.setStrict(true));
        Check.due("9: setStrict(false)", true, map.setStrict(false));
        Check.due("9: all three are changes", 2, map.undo());
        Check.due("9: strict after undo", true, map.setStrict(true));
    }

    private static void set() {
        MapGeneralizer map = new MapGeneralizer();
        Check.due("10: the greatest tolerance", 32, map.set(4, 0, 500));
        Check.due("10: the greatest area", 4, map.set(4, 1, 20));
        Check.due("10: the greatest rank", 4, map.set(4, 2, 9));
        Check.due("10: the same as behind", 24, map.set(3, 0, 500));
        Check.due("10: the same as before", 2, map.set(2, 1, 1));
        Check.due("10: 0 on level 1", 1, map.set(1, 2, 0));
        Check.due("10: setting then", 500, map.setting(3, 0));
        Check.refused("10: less than before", STATE, () -> map.set(4, 0, 499));
        Check.refused("10: greater than behind", STATE, () -> map.set(1, 0, 17));
        int[][] wrong = {{0, 0, 0}, {5, 0, 400}, {1, -1, 1}, {1, 3, 1}, {4, 0, 501}, {4, 1, 21}, {4, 2, 10},
            {1, 0, -1}, {1, 1, -1}, {1, 2, -1}, {LEAST, 0, 0}, {MOST, MOST, MOST}, {1, 1, 21}};
        for (int[] n : wrong) {
            Check.refused("10: out of range " + Arrays.toString(n), ARGUMENT,
                    () -> map.set(n[0], n[1], n[2]));
        }
    }

    private static void setting() {
        MapGeneralizer map = new MapGeneralizer();
        Check.due("11: setting(0, 0)", 0, map.setting(0, 0));
        Check.due("11: setting(4, 2)", 4, map.setting(4, 2));
        int[][] wrong = {{-1, 0}, {5, 0}, {0, -1}, {0, 3}, {LEAST, MOST}};
        for (int[] n : wrong) {
            Check.refused("11: out of range " + Arrays.toString(n), ARGUMENT, () -> map.setting(n[0], n[1]));
        }
    }

    private static void count() {
        MapGeneralizer map = Check.mapOf("L0,0-5,0-5,9;L10,2-15,2;P30,3r1w3h3;F00=1;F01=1;F05=0;");
        int[] want = {2, 1, 2, 61, 5};
        for (int what = 0; what < 5; what++) {
            Check.due("12: count(" + what + ")", want[what], map.count(what));
        }
        for (int what : new int[] {-1, 5, LEAST, MOST}) {
            Check.refused("12: count(" + what + ")", ARGUMENT, () -> map.count(what));
        }
    }

    private static void point() {
        MapGeneralizer map = new MapGeneralizer();
        map.addPoint(1, 2, 3, 5, 4, 2);
        int[] want = {1, 2, 3, 5, 4, 2};
        for (int what = 0; what < 6; what++) {
            Check.due("13: point(0, " + what + ")", want[what], map.point(0, what));
        }
        Check.refused("13: what -1", ARGUMENT, () -> map.point(0, -1));
        Check.refused("13: what 6", ARGUMENT, () -> map.point(0, 6));
        Check.refused("13: point 1", INDEX, () -> map.point(1, 0));
        Check.refused("13: point -1, what 6", INDEX, () -> map.point(-1, 6));
    }
}
