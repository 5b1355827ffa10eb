import java.util.NoSuchElementException;

/** Promises 14 to 22: lines of levels. */
public final class LinesTest {
    private static final Class<IllegalArgumentException> ARGUMENT = IllegalArgumentException.class;
    private static final Class<IndexOutOfBoundsException> INDEX = IndexOutOfBoundsException.class;
    private static final String HILLS = "L0,10-4,11-8,10-9,14-12,10;";
    private static final String ROOF = "L0,0-4,4-8,0;";

    public static void main(String[] args) {
        vertices();
        vertex();
        tolerance();
        ties();
        heldByPoint();
        heldByLine();
        heldByItself();
        lost();
        why();
        weight();
        removed();
        extent();
        mostSimplified();
        lineAt();
        Check.finish();
    }

    private static void vertices() {
        MapGeneralizer map = Check.mapOf(HILLS);
        int[] want = {5, 4, 2, 2, 2};
        for (int level = 0; level < 5; level++) {
            Check.due("14: vertices(" + level + ", 0)", want[level], map.vertices(level, 0));
        }
        Check.refused("14: level -1", ARGUMENT, () -> map.vertices(-1, 0));
        Check.refused("14: level 5, no line", ARGUMENT, () -> map.vertices(5, 1));
        Check.refused("14: line 1", INDEX, () -> map.vertices(0, 1));
        Check.refused("14: line -1", INDEX, () -> map.vertices(4, -1));
    }

    private static void vertex() {
        MapGeneralizer map = Check.mapOf(HILLS);
        Check.due("15: level 1", "L0,10-8,10-9,14-12,10;", Check.textOf(map, 1, 0));
        Check.due("15: level 2", "L0,10-12,10;", Check.textOf(map, 2, 0));
        Check.due("15: x", 9, map.vertex(1, 0, 2, false));
        Check.due("15: y", 14, map.vertex(1, 0, 2, true));
        Check.due("15: x of the last one", 12, map.vertex(4, 0, 1, false));
        Check.refused("15: level 5", ARGUMENT, () -> map.vertex(5, 9, 9, true));
        Check.refused("15: line 1", INDEX, () -> map.vertex(0, 1, 0, true));
        Check.refused("15: vertex 2 of level 2", INDEX, () -> map.vertex(2, 0, 2, true));
        Check.refused("15: vertex -1", INDEX, () -> map.vertex(0, 0, -1, false));
        Check.refused("15: vertex far behind", INDEX, () -> map.vertex(0, 0, Integer.MAX_VALUE, false));
    }

    private static void tolerance() {
        MapGeneralizer map = Check.mapOf("L0,0-2,2-4,4-6,5;");
        map.set(1, 0, 0);
        Check.due("14: tolerance 0 removes what weighs 0", "L0,0-4,4-6,5;", Check.textOf(map, 1, 0));
        Check.due("14: the tolerance itself removes", "L0,0-6,5;", Check.textOf(map, 2, 0));
        MapGeneralizer roof = Check.mapOf(ROOF);
        Check.due("14: weight 32, tolerance 24", 3, roof.vertices(3, 0));
        Check.due("14: weight 32, tolerance 32", 2, roof.vertices(4, 0));
        roof.set(4, 0, 31);
        Check.due("14: weight 32, tolerance 31", 3, roof.vertices(4, 0));
    }

    private static void ties() {
        MapGeneralizer map = Check.mapOf("L0,0-1,1-2,0-3,1-4,0;");
        map.set(1, 0, 2);
        Check.due("14: the first one of equal weight goes first", "L0,0-3,1-4,0;", Check.textOf(map, 1, 0));
        MapGeneralizer light = Check.mapOf("L0,0-10,10-20,10-21,10-30,0;");
        light.set(1, 0, 10);
        Check.due("14: the lightest one goes first, and weights are as they are then", "L0,0-10,10-21,10-30,0;",
                Check.textOf(light, 1, 0));
    }

    private static void heldByPoint() {
        int[][] inside = {{4, 1}, {4, 0}, {1, 0}, {7, 0}, {4, 3}};
        for (int[] at : inside) {
            MapGeneralizer map = Check.mapOf(ROOF);
            map.addPoint(at[0], at[1], 0, 2, 1, 0);
            Check.due("17: a point in the triangle", 3, map.why(4, 0, 1));
            map.removePoint(0);
            Check.due("14: and without it", 2, map.vertices(4, 0));
        }
        int[][] outside = {{4, 5}, {9, 0}, {1, 2}, {63, 63}};
        for (int[] at : outside) {
            MapGeneralizer map = Check.mapOf(ROOF);
            map.addPoint(at[0], at[1], 9, 2, 1, 0);
            Check.due("14: a point outside", 2, map.vertices(4, 0));
        }
        MapGeneralizer heavy = Check.mapOf("L0,0-5,5-10,0;");
        heavy.addPoint(5, 2, 0, 2, 1, 0);
        Check.due("17: the weight comes before the point", 2, heavy.why(4, 0, 1));
    }

    private static void heldByLine() {
        MapGeneralizer touch = Check.mapOf(ROOF + "L4,0-4,2;");
        Check.due("17: another line ends on the new segment", 4, touch.why(4, 0, 1));
        touch.removeLine(1);
        Check.due("14: and without that line", 2, touch.vertices(4, 0));
        MapGeneralizer within = Check.mapOf(ROOF + "L3,1-5,1;");
        Check.due("14: another line within the triangle does not hold", 2, within.vertices(4, 0));
        MapGeneralizer both = Check.mapOf(ROOF + "L4,0-4,2;");
        both.addPoint(3, 1, 0, 2, 1, 0);
        Check.due("17: the point comes before the line", 3, both.why(4, 0, 1));
        MapGeneralizer end = Check.mapOf("L0,0-4,4-8,0;L2,0-2,1-3,0;");
        Check.due("14: lines are taken as far as they are made", "L2,0-3,0;", Check.textOf(end, 1, 1));
        Check.due("17: and hold then", 4, end.why(4, 0, 1));
    }

    private static void heldByItself() {
        MapGeneralizer cross = Check.mapOf("L0,10-4,14-8,10-30,8-30,0-4,0-4,11;");
        Check.due("17: its own line crosses", 4, cross.why(4, 0, 1));
        Check.due("14: and it stays", 7, cross.vertices(4, 0));
        MapGeneralizer behind = Check.mapOf("L0,10-4,14-8,10-4,0-4,11;");
        Check.due("17: the segment behind the next one crosses", 4, behind.why(4, 0, 1));
        MapGeneralizer before = Check.mapOf("L4,11-4,0-8,10-4,14-0,10;");
        Check.due("17: the segment before the one before crosses", 4, before.why(4, 0, 3));
        MapGeneralizer fold = Check.mapOf("L0,0-4,2-8,0-4,0;L3,1-5,1;");
        Check.due("17: the next segment would go back", 4, fold.why(2, 0, 1));
        Check.due("17: the other line is in the way", 4, fold.why(2, 0, 2));
        Check.due("14: so all stay", "L0,0-4,2-8,0-4,0;", Check.textOf(fold, 2, 0));
        MapGeneralizer back = Check.mapOf("L4,0-8,0-4,2-0,0;L3,1-5,1;");
        Check.due("17: the segment before would go back", 4, back.why(2, 0, 2));
        MapGeneralizer ends = Check.mapOf("L0,0-4,2-8,0-8,4-4,4;");
        ends.set(2, 0, 16);
        Check.due("15: nothing in the way", "L0,0-4,4;", Check.textOf(ends, 4, 0));
    }

    private static void lost() {
        MapGeneralizer map = Check.mapOf(HILLS);
        int[] want = {5, 1, 2, 2, 5};
        for (int index = 0; index < 5; index++) {
            Check.due("16: lost(0, " + index + ")", want[index], map.lost(0, index));
        }
        MapGeneralizer roof = Check.mapOf(ROOF);
        Check.due("16: on level 4", 4, roof.lost(0, 1));
        roof.set(4, 0, 31);
        Check.due("16: on none", 5, roof.lost(0, 1));
        Check.refused("16: line 1", INDEX, () -> map.lost(1, 0));
        Check.refused("16: line -1", INDEX, () -> map.lost(-1, 0));
        Check.refused("16: vertex 5", INDEX, () -> map.lost(0, 5));
        Check.refused("16: vertex -1", INDEX, () -> map.lost(0, -1));
    }

    private static void why() {
        MapGeneralizer map = Check.mapOf(HILLS);
        Check.due("17: the first one", 1, map.why(0, 0, 0));
        Check.due("17: the last one", 1, map.why(1, 0, 3));
        Check.due("17: too heavy on level 0", 2, map.why(0, 0, 1));
        Check.due("17: too heavy on level 1", 2, map.why(1, 0, 1));
        MapGeneralizer flat = Check.mapOf("L0,0-2,0-4,0;");
        Check.due("17: need not stay on level 0", 0, flat.why(0, 0, 1));
        MapGeneralizer past = Check.mapOf("L0,0-2,0-4,0;L6,0-9,0;");
        Check.due("17: nothing in common with the line behind", 0, past.why(0, 0, 1));
        Check.refused("17: level 5", ARGUMENT, () -> map.why(5, 1, 0));
        Check.refused("17: level -1", ARGUMENT, () -> map.why(-1, 0, 9));
        Check.refused("17: line 1", INDEX, () -> map.why(0, 1, 0));
        Check.refused("17: vertex 4 of level 1", INDEX, () -> map.why(1, 0, 4));
        Check.refused("17: vertex -1", INDEX, () -> map.why(1, 0, -1));
    }

    private static void weight() {
        MapGeneralizer map = Check.mapOf(HILLS, "L0,63-63,63-63,20;");
        int[] want = {-1, 8, 17, 16, -1};
        for (int index = 0; index < 5; index++) {
            Check.due("18: weight(0, 0, " + index + ")", want[index], map.weight(0, 0, index));
        }
        Check.due("18: weight on level 1", 32, map.weight(1, 0, 1));
        Check.due("18: a great weight", 63 * 43, map.weight(4, 1, 1));
        Check.due("18: weight of 0", 0, Check.mapOf("L0,0-2,0-4,0;").weight(0, 0, 1));
        Check.refused("18: level 5", ARGUMENT, () -> map.weight(5, 2, 0));
        Check.refused("18: line 2", INDEX, () -> map.weight(0, 2, 0));
        Check.refused("18: vertex 5", INDEX, () -> map.weight(0, 0, 5));
        Check.refused("18: vertex -1", INDEX, () -> map.weight(0, 0, -1));
    }

    private static void removed() {
        MapGeneralizer map = Check.mapOf(HILLS, "L20,0-24,4-28,0;");
        Check.due("19: removed(0, 1)", 1, map.removed(0, 1));
        Check.due("19: removed(0, 4)", 4, map.removed(0, 4));
        Check.due("19: removed(4, 0)", 4, map.removed(4, 0));
        Check.due("19: removed(2, 1)", 2, map.removed(2, 1));
        Check.due("19: removed(3, 3)", 0, map.removed(3, 3));
        Check.refused("19: from 5", ARGUMENT, () -> map.removed(5, 0));
        Check.refused("19: to 5", ARGUMENT, () -> map.removed(0, 5));
        Check.refused("19: from -1", ARGUMENT, () -> map.removed(-1, 0));
        Check.refused("19: to -1", ARGUMENT, () -> map.removed(0, -1));
    }

    private static void extent() {
        MapGeneralizer map = Check.mapOf(HILLS, "L63,0-0,63;");
        Check.due("20: extent(0, 0)", 22, map.extent(0, 0));
        Check.due("20: extent(4, 0)", 12, map.extent(4, 0));
        Check.due("20: extent(0, 1)", 126, map.extent(0, 1));
        Check.refused("20: level 5", ARGUMENT, () -> map.extent(5, 2));
        Check.refused("20: line 2", INDEX, () -> map.extent(0, 2));
        Check.refused("20: line -1", INDEX, () -> map.extent(4, -1));
    }

    private static void mostSimplified() {
        MapGeneralizer map = Check.mapOf("L20,0-24,4-28,0;", HILLS, "L0,30-2,31-4,30-6,31-8,30;");
        Check.due("21: of several, the lowest one", 1, map.mostSimplified(4));
        Check.due("21: on level 1", 2, map.mostSimplified(1));
        Check.refused("21: level 0", NoSuchElementException.class, () -> map.mostSimplified(0));
        Check.refused("21: level 5", ARGUMENT, () -> map.mostSimplified(5));
        Check.refused("21: level -1", ARGUMENT, () -> map.mostSimplified(-1));
        Check.refused("21: no line", NoSuchElementException.class, () -> new MapGeneralizer().mostSimplified(4));
        Check.refused("21: none loses any", NoSuchElementException.class,
                () -> Check.mapOf("L0,0-9,9;").mostSimplified(4));
    }

    private static void lineAt() {
        MapGeneralizer map = Check.mapOf(HILLS, "L20,0-26,3;");
        Check.due("22: a vertex", 0, map.lineAt(0, 4, 11));
        Check.due("22: beside", -1, map.lineAt(0, 4, 10));
        Check.due("22: on level 1", 0, map.lineAt(1, 4, 10));
        Check.due("22: on level 1, where it was", -1, map.lineAt(1, 4, 11));
        Check.due("22: within a segment", 1, map.lineAt(4, 22, 1));
        Check.due("22: nearly", -1, map.lineAt(4, 23, 1));
        Check.due("22: behind the end", -1, map.lineAt(4, 28, 4));
        int[][] wrong = {{-1, 0, 0}, {5, 0, 0}, {0, -1, 0}, {0, 64, 0}, {0, 0, -1}, {0, 0, 64}};
        for (int[] n : wrong) {
            Check.refused("22: out of range", ARGUMENT, () -> map.lineAt(n[0], n[1], n[2]));
        }
    }
}
