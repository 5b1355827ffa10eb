import java.util.ArrayList;
import java.util.List;

/** Promises 3, 14, 17 and 40 on all lines, pairs of lines, triangles and points of a small grid. */
public final class GridTest {
    private static final int SIDE = 4;
    private static final int CALLS = 512;
    private static final List<Model.Vertex> PLACES = places();

    private MapGeneralizer map = new MapGeneralizer();
    private int calls = 0;

    private GridTest() {
    }

    public static void main(String[] args) {
        new GridTest().pairs();
        new GridTest().linesOfThree();
        new GridTest().linesOfFour();
        new GridTest().triangles();
        Check.finish();
    }

    private static List<Model.Vertex> places() {
        List<Model.Vertex> places = new ArrayList<>();
        for (int x = 0; x < SIDE; x++) {
            for (int y = 0; y < SIDE; y++) {
                places.add(new Model.Vertex(x, y));
            }
        }
        return places;
    }

    private static String textOf(List<Model.Vertex> line) {
        StringBuilder text = new StringBuilder("L");
        for (Model.Vertex vertex : line) {
            text.append(text.length() > 1 ? "-" : "").append(vertex.x()).append(',').append(vertex.y());
        }
        return text.append(';').toString();
    }

    /** Begins a new object with these lines if fewer than the needed calls are left on the old one. */
    private void need(int number, String lines) {
        if (calls + number > CALLS) {
            map = Check.mapOf(lines);
            calls = lines.length() + 1;
        }
        calls += number;
    }

    private void checkLine(String before, List<Model.Vertex> line, boolean isFree) {
        String text = textOf(line);
        need(text.length() + 2, before);
        String answer = Calls.answer(map, "tell(" + text + ")");
        Check.due("40: " + before + " and " + text, isFree ? "1" : "!unsupported", answer);
        if (answer.equals("1")) {
            map.undo();
        }
    }

    private void pairs() {
        for (Model.Vertex a : PLACES) {
            for (Model.Vertex b : PLACES) {
                if (!a.equals(b)) {
                    pairsWith(List.of(a, b));
                }
            }
        }
    }

    private void pairsWith(List<Model.Vertex> first) {
        calls = CALLS;
        for (Model.Vertex c : PLACES) {
            for (Model.Vertex d : PLACES) {
                List<Model.Vertex> second = List.of(c, d);
                checkLine(textOf(first), second, Model.simple(second) && !Model.common(first, second));
            }
        }
    }

    private void linesOfThree() {
        calls = CALLS;
        for (Model.Vertex a : PLACES) {
            for (Model.Vertex b : PLACES) {
                for (Model.Vertex c : PLACES) {
                    List<Model.Vertex> line = List.of(a, b, c);
                    checkLine("F00=1;", line, Model.simple(line));
                }
            }
        }
    }

    private void linesOfFour() {
        calls = CALLS;
        for (Model.Vertex a : PLACES) {
            for (Model.Vertex b : PLACES) {
                for (Model.Vertex c : PLACES) {
                    for (Model.Vertex d : PLACES) {
                        List<Model.Vertex> line = List.of(a, b, c, d);
                        checkLine("F00=1;", line, Model.simple(line));
                    }
                }
            }
        }
    }

    private void triangles() {
        for (Model.Vertex a : PLACES) {
            for (Model.Vertex b : PLACES) {
                for (Model.Vertex c : PLACES) {
                    List<Model.Vertex> line = List.of(a, b, c);
                    if (Model.simple(line)) {
                        pointsBy(line);
                    }
                }
            }
        }
    }

    /** Level 4 removes the only inner vertex unless a point is in its triangle. */
    private static void pointsBy(List<Model.Vertex> line) {
        MapGeneralizer map = Check.mapOf(textOf(line));
        map.set(4, 0, 500);
        for (Model.Vertex place : PLACES) {
            String what = textOf(line) + " and a point at " + place;
            String answer = Calls.answer(map, "addPoint(" + place.x() + ", " + place.y() + ", 5, 2, 1, 0)");
            if (Model.isOn(place, line)) {
                Check.due("3: " + what, "!unsupported", answer);
            } else {
                boolean isHeld = Model.inTriangle(place, line.get(0), line.get(1), line.get(2));
                Check.due("3: " + what, "0", answer);
                Check.due("14: " + what, isHeld ? 3 : 2, map.vertices(4, 0));
                Check.due("17: " + what, isHeld ? 3 : 1, map.why(4, 0, 1));
                map.removePoint(0);
            }
        }
    }
}
