import java.util.NoSuchElementException;

/** Promises 23 to 30: parcels of levels. */
public final class ParcelsTest {
    private static final Class<IllegalArgumentException> ARGUMENT = IllegalArgumentException.class;
    private static final Class<IndexOutOfBoundsException> INDEX = IndexOutOfBoundsException.class;
    private static final String EMPTY_ROWS = "......../".repeat(7);

    public static void main(String[] args) {
        parcelAt();
        area();
        border();
        neighbors();
        became();
        choiceOfNeighbor();
        order();
        strict();
        parcels();
        leftOver();
        outline();
        Check.finish();
    }

    /** Parcels of one row, a letter from a to p or a point for each column. */
    private static MapGeneralizer rowOf(String row) {
        MapGeneralizer map = new MapGeneralizer();
        for (int column = 0; column < row.length(); column++) {
            if (row.charAt(column) != '.') {
                map.paint(column, 0, 1, 1, row.charAt(column) - 'a');
            }
        }
        return map;
    }

    private static MapGeneralizer island() {
        MapGeneralizer map = new MapGeneralizer();
        map.paint(0, 0, 8, 8, 0);
        map.paint(0, 0, 1, 1, 1);
        map.paint(6, 6, 2, 1, 2);
        map.paint(3, 3, 2, 2, 3);
        map.setClass(2, 1);
        map.setClass(3, 1);
        return map;
    }

    private static void parcelAt() {
        MapGeneralizer map = rowOf("a.bbb..p");
        Check.due("23: level 0", "0.111..f/" + EMPTY_ROWS, Check.fieldsOf(map, 0));
        MapGeneralizer merged = rowOf("abbcccc.");
        Check.due("23: level 1", "0112222./" + EMPTY_ROWS, Check.fieldsOf(merged, 1));
        Check.due("23: level 2", "1112222./" + EMPTY_ROWS, Check.fieldsOf(merged, 2));
        Check.due("23: level 3", "1112222./" + EMPTY_ROWS, Check.fieldsOf(merged, 3));
        Check.due("23: level 4", "2222222./" + EMPTY_ROWS, Check.fieldsOf(merged, 4));
        map.paint(2, 5, 1, 1, 7);
        Check.due("23: column and row", 7, map.parcelAt(0, 2, 5));
        Check.due("23: not row and column", -1, map.parcelAt(0, 5, 2));
        int[][] wrong = {{-1, 0, 0}, {5, 0, 0}, {0, -1, 0}, {0, 8, 0}, {0, 0, -1}, {0, 0, 8}};
        for (int[] n : wrong) {
            Check.refused("23: out of range", ARGUMENT, () -> map.parcelAt(n[0], n[1], n[2]));
        }
    }

    private static void area() {
        MapGeneralizer map = island();
        Check.due("24: area(0, 0)", 57, map.area(0, 0));
        Check.due("24: area(2, 0)", 58, map.area(2, 0));
        Check.due("24: area(3, 0)", 60, map.area(3, 0));
        Check.due("24: area(4, 3)", 4, map.area(4, 3));
        Check.due("24: area of a merged one", 0, map.area(4, 1));
        Check.due("24: area of an empty one", 0, map.area(0, 15));
        Check.refused("24: level 5", ARGUMENT, () -> map.area(5, 16));
        Check.refused("24: level -1", ARGUMENT, () -> map.area(-1, 0));
        Check.refused("24: parcel 16", INDEX, () -> map.area(0, 16));
        Check.refused("24: parcel -1", INDEX, () -> map.area(0, -1));
    }

    private static void border() {
        MapGeneralizer map = island();
        Check.due("25: border(0, 0, 1)", 2, map.border(0, 0, 1));
        Check.due("25: border(0, 3, 0)", 8, map.border(0, 3, 0));
        Check.due("25: border(0, 2, 0)", 5, map.border(0, 2, 0));
        Check.due("25: the same", 0, map.border(0, 0, 0));
        Check.due("25: not neighbors", 0, map.border(0, 1, 2));
        Check.due("25: merged", 0, map.border(2, 0, 1));
        Check.due("25: columns do not go on in the next row", 0, Check.mapOf("F70=1;F01=2;").border(0, 1, 2));
        Check.due("25: corners do not count", 0, Check.mapOf("F00=1;F11=2;").border(0, 1, 2));
        Check.refused("25: level 5", ARGUMENT, () -> map.border(5, -1, 16));
        Check.refused("25: one is 16", INDEX, () -> map.border(0, 16, 0));
        Check.refused("25: other is 16", INDEX, () -> map.border(0, 0, 16));
        Check.refused("25: one is -1", INDEX, () -> map.border(0, -1, 0));
        Check.refused("25: other is -1", INDEX, () -> map.border(0, 0, -1));
        Check.refused("25: both are -1", INDEX, () -> map.border(0, -1, -1));
    }

    private static void neighbors() {
        MapGeneralizer map = island();
        Check.due("26: neighbors(0, 0)", 14, map.neighbors(0, 0));
        Check.due("26: neighbors(0, 1)", 1, map.neighbors(0, 1));
        Check.due("26: neighbors(3, 0)", 8, map.neighbors(3, 0));
        Check.due("26: of a merged one", 0, map.neighbors(3, 1));
        Check.due("26: parcel 15", 1 << 15, rowOf("ap.").neighbors(0, 0));
        Check.due("26: none is no neighbor", 0, rowOf("a.b").neighbors(0, 0));
        Check.refused("26: level 5", ARGUMENT, () -> map.neighbors(5, 16));
        Check.refused("26: parcel 16", INDEX, () -> map.neighbors(0, 16));
        Check.refused("26: parcel -1", INDEX, () -> map.neighbors(0, -1));
    }

    private static void became() {
        MapGeneralizer map = rowOf("abbccccc");
        int[] chain = {0, 0, 1, 1, 2};
        for (int level = 0; level < 5; level++) {
            Check.due("27: became(" + level + ", 0)", chain[level], map.became(level, 0));
        }
        Check.due("27: became(4, 1)", 2, map.became(4, 1));
        Check.due("27: became(4, 2)", 2, map.became(4, 2));
        Check.refused("27: no area", NoSuchElementException.class, () -> map.became(0, 3));
        Check.refused("27: no such parcel", INDEX, () -> map.became(0, 16));
        Check.refused("27: parcel -1", INDEX, () -> map.became(0, -1));
        Check.refused("27: level 5", ARGUMENT, () -> map.became(5, 16));
        Check.refused("27: level -1, no area", ARGUMENT, () -> map.became(-1, 3));
    }

    private static void choiceOfNeighbor() {
        MapGeneralizer same = Check.mapOf("F11=1;F10=2;F01=2;F21=3;");
        Check.due("27: the greatest border", 2, same.became(2, 1));
        same.setClass(1, 1);
        same.setClass(3, 1);
        Check.due("27: the same class before the greatest border", 3, same.became(2, 1));
        same.setClass(3, 2);
        Check.due("27: any other, by the greatest border", 2, same.became(2, 1));
        Check.due("27: the greatest area", 3, rowOf("bbaddd").became(2, 0));
        Check.due("27: the greatest area, on the other side", 1, rowOf("bbbadd").became(2, 0));
        Check.due("27: the lowest number", 1, rowOf("ddabb").became(2, 0));
        Check.due("27: the lowest number, on the other side", 1, rowOf("bbadd").became(2, 0));
        MapGeneralizer fields = Check.mapOf("F11=1;F10=2;F12=2;F21=3;F31=3;F41=3;");
        Check.due("27: the border before the area", 2, fields.became(2, 1));
    }

    private static void order() {
        MapGeneralizer map = rowOf("aabc");
        map.set(2, 1, 3);
        Check.due("27: the least area first, of equal ones the lowest number", "0000", rowText(map, 2));
        Check.due("27: the borders are as they are then", 0, map.became(2, 2));
        MapGeneralizer alone = rowOf("a.bc");
        Check.due("27: one that cannot be merged stays", "0.22", rowText(alone, 2));
    }

    private static String rowText(MapGeneralizer map, int level) {
        return Check.fieldsOf(map, level).substring(0, 4);
    }

    private static void strict() {
        MapGeneralizer map = rowOf("abbb");
        map.setClass(0, 3);
        Check.due("27: not strict", 1, map.became(2, 0));
        map.setStrict(true);
        Check.due("27: strict", 0, map.became(4, 0));
        Check.due("29: strict", 1, map.leftOver(2));
        map.setClass(1, 3);
        Check.due("27: strict, the same class", 1, map.became(2, 0));
        map.setStrict(false);
        Check.due("27: the same class", 1, map.became(2, 0));
    }

    private static void parcels() {
        MapGeneralizer map = island();
        Check.due("28: parcels(0, -1)", 4, map.parcels(0, -1));
        Check.due("28: parcels(2, -1)", 3, map.parcels(2, -1));
        Check.due("28: parcels(4, -1)", 2, map.parcels(4, -1));
        Check.due("28: parcels(0, 1)", 2, map.parcels(0, 1));
        Check.due("28: parcels(4, 1)", 1, map.parcels(4, 1));
        Check.due("28: parcels(0, 3)", 0, map.parcels(0, 3));
        int[][] wrong = {{-1, 0}, {5, 0}, {0, -2}, {0, 4}};
        for (int[] n : wrong) {
            Check.refused("28: out of range", ARGUMENT, () -> map.parcels(n[0], n[1]));
        }
    }

    private static void leftOver() {
        MapGeneralizer map = rowOf("a.bb.ccc");
        int[] want = {0, 0, 1, 2, 3};
        for (int level = 0; level < 5; level++) {
            Check.due("29: leftOver(" + level + ")", want[level], map.leftOver(level));
        }
        Check.due("29: all merged", 0, rowOf("abc").leftOver(2));
        Check.due("29: merged into one that is small", 1, rowOf("abc").leftOver(4));
        Check.refused("29: level 5", ARGUMENT, () -> map.leftOver(5));
        Check.refused("29: level -1", ARGUMENT, () -> map.leftOver(-1));
    }

    private static void outline() {
        MapGeneralizer map = island();
        Check.due("30: outline(0, 1)", 13, map.outline(0, 1));
        Check.due("30: outline(0, 0)", 13, map.outline(0, 0));
        Check.due("30: outline(3, 1)", 8, map.outline(3, 1));
        Check.due("30: outline(0, 2)", 0, map.outline(0, 2));
        map.paint(0, 7, 1, 1, -1);
        Check.due("30: none is of no class", 15, map.outline(0, 0));
        Check.due("30: the edge does not count", 0, new MapGeneralizer().outline(0, 0));
        Check.due("30: two parcels of a class", 4, Check.mapOf("F00=1;F10=2;F20=3;").outline(0, 0));
        int[][] wrong = {{-1, 0}, {5, 0}, {0, -1}, {0, 4}};
        for (int[] n : wrong) {
            Check.refused("30: out of range", ARGUMENT, () -> map.outline(n[0], n[1]));
        }
    }
}
