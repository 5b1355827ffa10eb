import java.util.Arrays;

/** Promises 31 to 38: labels of levels. */
public final class LabelsTest {
    private static final Class<IllegalArgumentException> ARGUMENT = IllegalArgumentException.class;
    private static final Class<IllegalStateException> STATE = IllegalStateException.class;
    private static final Class<IndexOutOfBoundsException> INDEX = IndexOutOfBoundsException.class;

    public static void main(String[] args) {
        shown();
        position();
        order();
        refusalByEdge();
        refusalByPoint();
        refusalByLabel();
        refusalByVertex();
        refusalOrder();
        refusalRefused();
        labels();
        labelAt();
        covered();
        placedShare();
        placedOn();
        Check.finish();
    }

    private static MapGeneralizer mapWith(int[]... points) {
        MapGeneralizer map = new MapGeneralizer();
        for (int[] n : points) {
            map.addPoint(n[0], n[1], n[2], n[3], n[4], n[5]);
        }
        return map;
    }

    private static void shown() {
        MapGeneralizer map = mapWith(new int[] {5, 5, 0, 2, 1, 0}, new int[] {15, 5, 3, 2, 1, 0},
                new int[] {25, 5, 4, 2, 1, 0});
        int[] want = {7, 6, 6, 6, 4};
        for (int level = 0; level < 5; level++) {
            Check.due("31: shown(" + level + ")", want[level], map.shown(level));
        }
        map.set(1, 2, 0);
        Check.due("31: least rank 0", 7, map.shown(1));
        Check.refused("31: level 5", ARGUMENT, () -> map.shown(5));
        Check.refused("31: level -1", ARGUMENT, () -> map.shown(-1));
    }

    private static void position() {
        for (int corner = 0; corner < 4; corner++) {
            MapGeneralizer map = mapWith(new int[] {30, 30, 5, 4, 2, corner});
            Check.due("32: the corner first", corner, map.position(4, 0));
        }
        MapGeneralizer edge = mapWith(new int[] {0, 30, 5, 4, 2, 1}, new int[] {63, 0, 5, 4, 2, 2});
        Check.due("32: the next free one", 3, edge.position(0, 0));
        Check.due("32: after 3 comes 0", 1, edge.position(0, 1));
        MapGeneralizer low = mapWith(new int[] {30, 30, 2, 4, 2, 0});
        Check.due("32: shown", 0, low.position(2, 0));
        Check.due("32: not shown", -1, low.position(3, 0));
        Check.refused("32: level 5", ARGUMENT, () -> low.position(5, 1));
        Check.refused("32: point 1", INDEX, () -> low.position(0, 1));
        Check.refused("32: point -1", INDEX, () -> low.position(0, -1));
    }

    private static void order() {
        MapGeneralizer equal = mapWith(new int[] {30, 30, 5, 4, 2, 0}, new int[] {35, 30, 5, 4, 2, 1});
        Check.due("32: of equal ranks the lower number first", 0, equal.position(0, 0));
        Check.due("32: and then the other", 2, equal.position(0, 1));
        MapGeneralizer ranks = mapWith(new int[] {30, 30, 5, 4, 2, 0}, new int[] {35, 30, 6, 4, 2, 1});
        Check.due("32: the higher rank first", 1, ranks.position(0, 1));
        Check.due("32: and then the lower", 1, ranks.position(0, 0));
        ranks.set(4, 2, 6);
        Check.due("32: not shown on this level", -1, ranks.position(4, 0));
        MapGeneralizer full = mapWith(new int[] {30, 30, 1, 2, 1, 0}, new int[] {31, 31, 9, 2, 1, 0},
                new int[] {29, 31, 9, 2, 1, 1}, new int[] {31, 29, 9, 2, 1, 3}, new int[] {29, 29, 9, 2, 1, 2});
        Check.due("32: all are refused", -1, full.position(0, 0));
        Check.due("34: four of five", 4, full.labels(0));
    }

    private static void refusalByEdge() {
        int[][] cases = {{51, 20, 12, 1, 0, 0}, {52, 20, 12, 1, 0, 1}, {12, 20, 12, 1, 1, 0}, {11, 20, 12, 1, 1, 1},
            {12, 59, 2, 4, 0, 0}, {12, 60, 2, 4, 0, 1}, {12, 4, 2, 4, 2, 0}, {12, 3, 2, 4, 2, 1},
            {51, 4, 12, 4, 3, 0}, {52, 4, 12, 4, 3, 1}, {51, 3, 12, 4, 3, 1}, {12, 59, 12, 4, 1, 0},
            {0, 0, 2, 1, 2, 1}, {63, 63, 2, 1, 0, 1}};
        for (int[] n : cases) {
            MapGeneralizer map = mapWith(new int[] {n[0], n[1], 5, n[2], n[3], 0});
            Check.due("33: at the edge " + Arrays.toString(n), n[5], map.refusal(0, 0, n[4]));
        }
    }

    private static void refusalByPoint() {
        MapGeneralizer map = mapWith(new int[] {30, 30, 9, 4, 2, 0}, new int[] {34, 32, 2, 2, 1, 0});
        Check.due("33: a point in its corner", 2, map.refusal(0, 0, 0));
        Check.due("32: so the next one", 1, map.position(0, 0));
        Check.due("33: not on this level", 0, map.refusal(3, 0, 0));
        Check.due("32: so the first one", 0, map.position(3, 0));
        MapGeneralizer beside = mapWith(new int[] {30, 30, 9, 4, 2, 0}, new int[] {35, 32, 2, 2, 1, 0},
                new int[] {31, 30, 2, 2, 1, 0}, new int[] {34, 33, 2, 2, 1, 0});
        Check.due("33: points beside it", 0, beside.refusal(0, 0, 0));
    }

    private static void refusalByLabel() {
        MapGeneralizer map = mapWith(new int[] {30, 30, 5, 4, 2, 0}, new int[] {37, 33, 4, 4, 2, 2});
        Check.due("33: a label placed before", 3, map.refusal(0, 1, 2));
        Check.due("32: so it is placed at 3", 3, map.position(0, 1));
        Check.due("33: the one placed later does not count", 0, map.refusal(0, 0, 0));
        map.setCorner(1, 3);
        Check.due("33: also for a position behind the one taken", 3, map.refusal(0, 1, 2));
        map.setCorner(0, 2);
        Check.due("33: when the other one is elsewhere", 0, map.refusal(0, 1, 2));
        map.setCorner(0, 0);
        map.removePoint(1);
        map.addPoint(39, 34, 4, 4, 2, 2);
        Check.due("33: side by side", 0, map.refusal(0, 1, 2));
    }

    private static void refusalByVertex() {
        MapGeneralizer map = Check.mapOf("L20,31-33,32-46,31;");
        map.addPoint(30, 30, 9, 4, 2, 0);
        Check.due("33: a vertex", 4, map.refusal(0, 0, 0));
        for (String line : new String[] {"L31,31-31,0;", "L34,31-34,0;", "L31,32-31,50;", "L34,32-34,50;"}) {
            MapGeneralizer corner = Check.mapOf(line);
            corner.addPoint(30, 30, 9, 4, 2, 0);
            Check.due("33: a vertex in a corner of the label, " + line, 4, corner.refusal(0, 0, 0));
        }
        MapGeneralizer beside = Check.mapOf("L30,31-30,40;L35,32-35,50;L31,33-31,40;L34,30-34,20;");
        beside.addPoint(30, 30, 9, 4, 2, 0);
        Check.due("33: vertices beside the label", 0, beside.refusal(0, 0, 0));
        Check.due("33: a segment alone does not matter", 0, map.refusal(0, 0, 1));
        Check.due("33: the vertex is gone on level 4", 0, map.refusal(4, 0, 0));
        Check.due("32: position on level 0", 1, map.position(0, 0));
        Check.due("32: position on level 4", 0, map.position(4, 0));
    }

    private static void refusalOrder() {
        MapGeneralizer three = Check.mapOf("L34,32-34,40;");
        three.addPoint(29, 33, 9, 4, 2, 3);
        three.addPoint(30, 30, 5, 4, 2, 0);
        Check.due("33: a label and a vertex", 3, three.refusal(0, 1, 0));
        three.addPoint(34, 31, 0, 2, 1, 0);
        Check.due("33: a point, a label and a vertex", 2, three.refusal(0, 1, 0));
        MapGeneralizer edge = mapWith(new int[] {62, 30, 5, 4, 2, 0}, new int[] {63, 31, 5, 4, 2, 0});
        Check.due("33: the edge before the point", 1, edge.refusal(0, 0, 0));
    }

    private static void refusalRefused() {
        MapGeneralizer map = mapWith(new int[] {30, 30, 0, 4, 2, 0});
        Check.refused("33: not shown", STATE, () -> map.refusal(1, 0, 0));
        Check.refused("33: no such point", INDEX, () -> map.refusal(1, 1, 0));
        Check.refused("33: point -1", INDEX, () -> map.refusal(0, -1, 0));
        Check.refused("33: position 4", ARGUMENT, () -> map.refusal(1, 1, 4));
        Check.refused("33: position -1", ARGUMENT, () -> map.refusal(1, 0, -1));
        Check.refused("33: level 5", ARGUMENT, () -> map.refusal(5, 1, 0));
        Check.refused("33: level -1", ARGUMENT, () -> map.refusal(-1, 0, 0));
    }

    private static void labels() {
        MapGeneralizer map = mapWith(new int[] {5, 5, 0, 2, 1, 0}, new int[] {15, 5, 3, 2, 1, 0});
        Check.due("34: labels(0)", 2, map.labels(0));
        Check.due("34: labels(3)", 1, map.labels(3));
        Check.due("34: labels(4)", 0, map.labels(4));
        Check.refused("34: level 5", ARGUMENT, () -> map.labels(5));
        Check.refused("34: level -1", ARGUMENT, () -> map.labels(-1));
    }

    private static void labelAt() {
        MapGeneralizer map = mapWith(new int[] {10, 10, 9, 4, 2, 2}, new int[] {30, 30, 2, 4, 2, 0});
        int[][] cases = {{31, 31, 1}, {34, 32, 1}, {35, 32, -1}, {34, 33, -1}, {30, 31, -1}, {31, 30, -1},
            {9, 9, 0}, {6, 8, 0}, {5, 8, -1}, {6, 7, -1}, {10, 9, -1}, {0, 0, -1}, {63, 63, -1}};
        for (int[] n : cases) {
            Check.due("35: labelAt(0, " + n[0] + ", " + n[1] + ")", n[2], map.labelAt(0, n[0], n[1]));
        }
        Check.due("35: not shown", -1, map.labelAt(3, 31, 31));
        int[][] wrong = {{-1, 0, 0}, {5, 0, 0}, {0, -1, 0}, {0, 64, 0}, {0, 0, -1}, {0, 0, 64}};
        for (int[] n : wrong) {
            Check.refused("35: out of range", ARGUMENT, () -> map.labelAt(n[0], n[1], n[2]));
        }
    }

    private static void covered() {
        MapGeneralizer map = mapWith(new int[] {10, 10, 9, 12, 4, 0}, new int[] {40, 30, 2, 5, 3, 0});
        Check.due("36: covered(0)", 63, map.covered(0));
        Check.due("36: covered(3)", 48, map.covered(3));
        Check.due("36: nothing", 0, new MapGeneralizer().covered(0));
        Check.refused("36: level 5", ARGUMENT, () -> map.covered(5));
        Check.refused("36: level -1", ARGUMENT, () -> map.covered(-1));
    }

    private static void placedShare() {
        MapGeneralizer map = mapWith(new int[] {30, 30, 3, 2, 1, 0}, new int[] {31, 31, 9, 2, 1, 0},
                new int[] {29, 31, 9, 2, 1, 1}, new int[] {31, 29, 9, 2, 1, 3}, new int[] {29, 29, 9, 2, 1, 2});
        Check.due("37: four of five", 0.8, map.placedShare(3));
        Check.due("37: four of four", 1.0, map.placedShare(4));
        map.removePoint(1);
        Check.due("37: four of four, with room", 1.0, map.placedShare(3));
        Check.refused("37: none is shown", ArithmeticException.class,
                () -> mapWith(new int[] {5, 5, 0, 2, 1, 0}).placedShare(1));
        Check.refused("37: no point", ArithmeticException.class, () -> new MapGeneralizer().placedShare(0));
        Check.refused("37: level 5", ARGUMENT, () -> new MapGeneralizer().placedShare(5));
        Check.refused("37: level -1", ARGUMENT, () -> map.placedShare(-1));
        MapGeneralizer none = Check.mapOf("L1,1-1,2;");
        none.addPoint(0, 0, 9, 2, 1, 0);
        Check.due("37: none of one", 0.0, none.placedShare(0));
    }

    private static void placedOn() {
        MapGeneralizer map = mapWith(new int[] {30, 30, 3, 2, 1, 0}, new int[] {10, 10, 9, 2, 1, 0},
                new int[] {50, 50, 0, 2, 1, 0});
        Check.due("38: rank 3", 15, map.placedOn(0));
        Check.due("38: rank 9", 31, map.placedOn(1));
        Check.due("38: rank 0", 1, map.placedOn(2));
        MapGeneralizer gone = Check.mapOf("L0,2-1,1-4,1;");
        gone.addPoint(0, 0, 9, 2, 1, 0);
        Check.due("38: where the vertex is gone", 30, gone.placedOn(0));
        Check.refused("38: point 3", INDEX, () -> map.placedOn(3));
        Check.refused("38: point -1", INDEX, () -> map.placedOn(-1));
    }
}
