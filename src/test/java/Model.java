import java.util.ArrayDeque;
import java.util.ArrayList;
import java.util.Arrays;
import java.util.Deque;
import java.util.HashMap;
import java.util.List;
import java.util.Map;
import java.util.NoSuchElementException;
import java.util.regex.Matcher;
import java.util.regex.Pattern;

/**
 * The document's words written down a second time, as plainly and as slowly as they stand, to be
 * held against the class: nothing is kept between calls but the map, and nothing is shared with it.
 */
final class Model {
    record Vertex(int x, int y) {
    }

    record Place(Vertex at, int rank, int width, int height, int corner) {
    }

    private static final class State {
        List<List<Vertex>> lines = new ArrayList<>();
        List<Place> points = new ArrayList<>();
        int[][] fields = new int[8][8];
        int[] kinds = new int[16];
        int[][] settings = new int[5][3];
        boolean strict = false;

        State() {
            for (int[] column : fields) {
                Arrays.fill(column, -1);
            }
            for (int level = 0; level < 5; level++) {
                settings[level] = new int[] {8 * level, level, level};
            }
        }

        State copy() {
            State other = new State();
            other.lines = copyLines(lines);
            other.points = new ArrayList<>(points);
            other.fields = copyFields(fields);
            other.kinds = kinds.clone();
            other.settings = copyFields(settings);
            other.strict = strict;
            return other;
        }
    }

    private static final String NUMBER = "(?:[1-5]?[0-9]|6[0-3])";
    private static final String POSITION = NUMBER + "," + NUMBER;
    private static final String LINE = "L" + POSITION + "(?:-" + POSITION + "){1,9};";
    private static final String POINT = "P" + POSITION + "r[0-9]w(?:[2-9]|1[0-2])h[1-4];";
    private static final String FIELD = "F[0-7][0-7]=(?:[0-9]|1[0-5]);";
    private static final Pattern TEXT = Pattern.compile("(?:" + LINE + "|" + POINT + "|" + FIELD + ")+");

    private State state = new State();
    private State saved = null;
    private final Deque<State> past = new ArrayDeque<>();
    private String input = "";
    private int error = -1;

    private static List<List<Vertex>> copyLines(List<List<Vertex>> lines) {
        List<List<Vertex>> copy = new ArrayList<>();
        for (List<Vertex> line : lines) {
            copy.add(new ArrayList<>(line));
        }
        return copy;
    }

    private static int[][] copyFields(int[][] fields) {
        int[][] copy = new int[fields.length][];
        for (int i = 0; i < fields.length; i++) {
            copy[i] = fields[i].clone();
        }
        return copy;
    }

    // ---- geometry by fractions

    private static long cross(Vertex a, Vertex b, Vertex c) {
        return (long) (b.x - a.x) * (c.y - a.y) - (long) (b.y - a.y) * (c.x - a.x);
    }

    private static boolean on(Vertex p, Vertex a, Vertex b) {
        return cross(a, b, p) == 0 && Math.min(a.x, b.x) <= p.x && p.x <= Math.max(a.x, b.x)
                && Math.min(a.y, b.y) <= p.y && p.y <= Math.max(a.y, b.y);
    }

    /** a + s (b - a) = c + t (d - c) is solved for s and t, both of which must be from 0 to 1. */
    private static boolean touch(Vertex a, Vertex b, Vertex c, Vertex d) {
        long divisor = (long) (b.x - a.x) * (d.y - c.y) - (long) (b.y - a.y) * (d.x - c.x);
        if (divisor == 0) {
            return on(a, c, d) || on(b, c, d) || on(c, a, b) || on(d, a, b);
        }
        long s = (long) (c.x - a.x) * (d.y - c.y) - (long) (c.y - a.y) * (d.x - c.x);
        long t = (long) (c.x - a.x) * (b.y - a.y) - (long) (c.y - a.y) * (b.x - a.x);
        if (divisor < 0) {
            divisor = -divisor;
            s = -s;
            t = -t;
        }
        return 0 <= s && s <= divisor && 0 <= t && t <= divisor;
    }

    static boolean simple(List<Vertex> line) {
        for (int i = 0; i + 1 < line.size(); i++) {
            if (line.get(i).equals(line.get(i + 1))) {
                return false;
            }
        }
        for (int i = 0; i + 1 < line.size(); i++) {
            for (int j = i + 1; j + 1 < line.size(); j++) {
                Vertex a = line.get(i);
                Vertex b = line.get(i + 1);
                Vertex c = line.get(j);
                Vertex d = line.get(j + 1);
                boolean bad = j == i + 1 ? on(a, c, d) || on(d, a, b) : touch(a, b, c, d);
                if (bad) {
                    return false;
                }
            }
        }
        return true;
    }

    static boolean common(List<Vertex> one, List<Vertex> other) {
        for (int i = 0; i + 1 < one.size(); i++) {
            for (int j = 0; j + 1 < other.size(); j++) {
                if (touch(one.get(i), one.get(i + 1), other.get(j), other.get(j + 1))) {
                    return true;
                }
            }
        }
        return false;
    }

    static boolean isOn(Vertex p, List<Vertex> line) {
        for (int i = 0; i + 1 < line.size(); i++) {
            if (on(p, line.get(i), line.get(i + 1))) {
                return true;
            }
        }
        return false;
    }

    static boolean inTriangle(Vertex p, Vertex a, Vertex b, Vertex c) {
        long whole = Math.abs(cross(a, b, c));
        if (whole == 0) {
            return on(p, a, b) || on(p, b, c) || on(p, a, c);
        }
        return Math.abs(cross(a, b, p)) + Math.abs(cross(b, c, p)) + Math.abs(cross(c, a, p)) == whole;
    }

    // ---- levels

    private static int weightOf(List<Vertex> line, int index) {
        return (int) Math.abs(cross(line.get(index - 1), line.get(index), line.get(index + 1)));
    }

    private int reason(List<List<Vertex>> lines, int number, int index, int tolerance) {
        List<Vertex> line = lines.get(number);
        if (index == 0 || index == line.size() - 1) {
            return 1;
        }
        if (weightOf(line, index) > tolerance) {
            return 2;
        }
        for (Place point : state.points) {
            if (inTriangle(point.at, line.get(index - 1), line.get(index), line.get(index + 1))) {
                return 3;
            }
        }
        List<Vertex> without = new ArrayList<>(line);
        without.remove(index);
        boolean blocked = !simple(without);
        for (int other = 0; other < lines.size(); other++) {
            blocked |= other != number && common(without, lines.get(other));
        }
        return blocked ? 4 : 0;
    }

    private List<List<Vertex>> linesOf(int level) {
        if (level == 0) {
            return copyLines(state.lines);
        }
        List<List<Vertex>> lines = linesOf(level - 1);
        while (true) {
            int bestLine = -1;
            int bestIndex = -1;
            for (int line = 0; line < lines.size(); line++) {
                for (int index = 0; index < lines.get(line).size(); index++) {
                    if (reason(lines, line, index, state.settings[level][0]) == 0 && (bestLine < 0
                            || weightOf(lines.get(line), index) < weightOf(lines.get(bestLine), bestIndex))) {
                        bestLine = line;
                        bestIndex = index;
                    }
                }
            }
            if (bestLine < 0) {
                return lines;
            }
            lines.get(bestLine).remove(bestIndex);
        }
    }

    private static int areaOf(int[][] fields, int parcel) {
        int area = 0;
        for (int[] column : fields) {
            for (int field : column) {
                area += field == parcel ? 1 : 0;
            }
        }
        return area;
    }

    private static int borderOf(int[][] fields, int one, int other) {
        int border = 0;
        for (int c = 0; c < 8; c++) {
            for (int r = 0; r < 8; r++) {
                int[][] steps = {{0, 1}, {0, -1}, {1, 0}, {-1, 0}};
                for (int[] step : steps) {
                    int c2 = c + step[0];
                    int r2 = r + step[1];
                    if (c2 >= 0 && c2 < 8 && r2 >= 0 && r2 < 8 && one != other
                            && fields[c][r] == one && fields[c2][r2] == other) {
                        border++;
                    }
                }
            }
        }
        return border;
    }

    private int heir(int[][] fields, int parcel) {
        List<Integer> same = new ArrayList<>();
        List<Integer> all = new ArrayList<>();
        for (int other = 0; other < 16; other++) {
            if (borderOf(fields, parcel, other) > 0) {
                all.add(other);
                if (state.kinds[other] == state.kinds[parcel]) {
                    same.add(other);
                }
            }
        }
        List<Integer> choice = !same.isEmpty() ? same : state.strict ? List.of() : all;
        return choice.stream().max((p, q) -> {
            int byBorder = Integer.compare(borderOf(fields, parcel, p), borderOf(fields, parcel, q));
            int byArea = Integer.compare(areaOf(fields, p), areaOf(fields, q));
            return byBorder != 0 ? byBorder : byArea != 0 ? byArea : Integer.compare(q, p);
        }).orElse(-1);
    }

    private int[][] fieldsOf(int level, Map<Integer, Integer> chain) {
        if (level == 0) {
            return copyFields(state.fields);
        }
        int[][] fields = fieldsOf(level - 1, chain);
        while (true) {
            int best = -1;
            for (int parcel = 15; parcel >= 0; parcel--) {
                int area = areaOf(fields, parcel);
                boolean small = area > 0 && area < state.settings[level][1];
                if (small && heir(fields, parcel) >= 0 && (best < 0 || area <= areaOf(fields, best))) {
                    best = parcel;
                }
            }
            if (best < 0) {
                return fields;
            }
            int heir = heir(fields, best);
            chain.put(best, heir);
            for (int[] column : fields) {
                for (int r = 0; r < 8; r++) {
                    column[r] = column[r] == best ? heir : column[r];
                }
            }
        }
    }

    private int[][] fieldsOf(int level) {
        return fieldsOf(level, new HashMap<>());
    }

    private boolean isShown(int level, int point) {
        return level == 0 || state.points.get(point).rank >= state.settings[level][2];
    }

    private List<Vertex> cells(int point, int position) {
        Place p = state.points.get(point);
        int left = position == 0 || position == 3 ? p.at.x + 1 : p.at.x - p.width;
        int right = position == 0 || position == 3 ? p.at.x + p.width : p.at.x - 1;
        int low = position < 2 ? p.at.y + 1 : p.at.y - p.height;
        int high = position < 2 ? p.at.y + p.height : p.at.y - 1;
        List<Vertex> cells = new ArrayList<>();
        for (int x = left; x <= right; x++) {
            for (int y = low; y <= high; y++) {
                cells.add(new Vertex(x, y));
            }
        }
        return cells;
    }

    private List<Integer> order(int level) {
        List<Integer> order = new ArrayList<>();
        for (int point = 0; point < state.points.size(); point++) {
            if (isShown(level, point)) {
                order.add(point);
            }
        }
        order.sort((p, q) -> Integer.compare(state.points.get(q).rank, state.points.get(p).rank));
        return order;
    }

    /** The reasons of all positions and, as the fifth number, the position of each point's label. */
    private Map<Integer, int[]> labelsOf(int level) {
        List<List<Vertex>> lines = linesOf(level);
        Map<Integer, int[]> labels = new HashMap<>();
        List<Vertex> taken = new ArrayList<>();
        for (int point : order(level)) {
            int[] answer = new int[5];
            for (int position = 0; position < 4; position++) {
                answer[position] = reasonAgainst(level, cells(point, position), taken, lines);
            }
            answer[4] = -1;
            for (int k = 3; k >= 0; k--) {
                int position = (state.points.get(point).corner + k) % 4;
                answer[4] = answer[position] == 0 ? position : answer[4];
            }
            if (answer[4] >= 0) {
                taken.addAll(cells(point, answer[4]));
            }
            labels.put(point, answer);
        }
        return labels;
    }

    private int reasonAgainst(int level, List<Vertex> cells, List<Vertex> taken, List<List<Vertex>> lines) {
        int reason = 5;
        for (Vertex cell : cells) {
            if (cell.x < 0 || cell.y < 0 || cell.x > 63 || cell.y > 63) {
                reason = Math.min(reason, 1);
            }
            for (int point = 0; point < state.points.size(); point++) {
                if (isShown(level, point) && state.points.get(point).at.equals(cell)) {
                    reason = Math.min(reason, 2);
                }
            }
            if (taken.contains(cell)) {
                reason = Math.min(reason, 3);
            }
            for (List<Vertex> line : lines) {
                if (line.contains(cell)) {
                    reason = Math.min(reason, 4);
                }
            }
        }
        return reason % 5;
    }

    // ---- what calls test

    private static void range(int... numbers) {
        for (int i = 0; i < numbers.length; i += 3) {
            if (numbers[i] < numbers[i + 1] || numbers[i] > numbers[i + 2]) {
                throw new IllegalArgumentException();
            }
        }
    }

    private static void level(int level) {
        range(level, 0, 4);
    }

    private static void index(int number, int size) {
        if (number < 0 || number >= size) {
            throw new IndexOutOfBoundsException();
        }
    }

    private void change() {
        past.addLast(state.copy());
        if (past.size() > 8) {
            past.removeFirst();
        }
    }

    // ---- the face

    int clear() {
        int lines = state.lines.size();
        state = new State();
        past.clear();
        return lines;
    }

    int addPoint(int x, int y, int rank, int width, int height, int corner) {
        range(x, 0, 63, y, 0, 63, rank, 0, 9, width, 2, 12, height, 1, 4, corner, 0, 3);
        Vertex at = new Vertex(x, y);
        if (state.points.stream().anyMatch(p -> p.at.equals(at)) || state.lines.stream().anyMatch(l -> isOn(at, l))) {
            throw new UnsupportedOperationException();
        }
        if (state.points.size() == 12) {
            throw new IllegalStateException();
        }
        change();
        state.points.add(new Place(at, rank, width, height, corner));
        return state.points.size() - 1;
    }

    int removeLine(int line) {
        index(line, state.lines.size());
        change();
        state.lines.remove(line);
        return state.lines.size();
    }

    int removePoint(int point) {
        index(point, state.points.size());
        change();
        state.points.remove(point);
        return state.points.size();
    }

    int setCorner(int point, int corner) {
        index(point, state.points.size());
        range(corner, 0, 3);
        change();
        Place p = state.points.get(point);
        state.points.set(point, new Place(p.at, p.rank, p.width, p.height, corner));
        return p.corner;
    }

    int paint(int column, int row, int width, int height, int parcel) {
        range(column, 0, 7, row, 0, 7, parcel, -1, 15, width, 1, 8, height, 1, 8);
        range(column + width, 1, 8, row + height, 1, 8);
        change();
        for (int c = column; c < column + width; c++) {
            Arrays.fill(state.fields[c], row, row + height, parcel);
        }
        return areaOf(state.fields, parcel);
    }

    int setClass(int parcel, int kind) {
        index(parcel, 16);
        range(kind, 0, 3);
        change();
        int before = state.kinds[parcel];
        state.kinds[parcel] = kind;
        return before;
    }

    boolean setStrict(boolean isStrict) {
        change();
        boolean before = state.strict;
        state.strict = isStrict;
        return before;
    }

    int set(int level, int setting, int value) {
        range(level, 1, 4, setting, 0, 2);
        range(value, 0, new int[] {500, 20, 9}[setting]);
        if (value < state.settings[level - 1][setting] || level < 4 && value > state.settings[level + 1][setting]) {
            throw new IllegalStateException();
        }
        change();
        int before = state.settings[level][setting];
        state.settings[level][setting] = value;
        return before;
    }

    int setting(int level, int setting) {
        range(level, 0, 4, setting, 0, 2);
        return state.settings[level][setting];
    }

    int count(int what) {
        range(what, 0, 4);
        int filled = 0;
        for (int parcel = 0; parcel < 16; parcel++) {
            filled += areaOf(state.fields, parcel) > 0 ? 1 : 0;
        }
        int all = state.lines.stream().mapToInt(List::size).sum();
        return new int[] {state.lines.size(), state.points.size(), filled, areaOf(state.fields, -1), all}[what];
    }

    int point(int point, int what) {
        index(point, state.points.size());
        range(what, 0, 5);
        Place p = state.points.get(point);
        return new int[] {p.at.x, p.at.y, p.rank, p.width, p.height, p.corner}[what];
    }

    private List<Vertex> line(int level, int line) {
        level(level);
        index(line, state.lines.size());
        return linesOf(level).get(line);
    }

    int vertices(int level, int line) {
        return line(level, line).size();
    }

    int vertex(int level, int line, int index, boolean isY) {
        List<Vertex> vertices = line(level, line);
        index(index, vertices.size());
        return isY ? vertices.get(index).y : vertices.get(index).x;
    }

    int lost(int line, int index) {
        index(line, state.lines.size());
        index(index, state.lines.get(line).size());
        int level = 1;
        while (level < 5 && linesOf(level).get(line).contains(state.lines.get(line).get(index))) {
            level++;
        }
        return level;
    }

    int why(int level, int line, int index) {
        List<Vertex> vertices = line(level, line);
        index(index, vertices.size());
        return reason(linesOf(level), line, index, state.settings[level][0]);
    }

    int weight(int level, int line, int index) {
        List<Vertex> vertices = line(level, line);
        index(index, vertices.size());
        return index == 0 || index == vertices.size() - 1 ? -1 : weightOf(vertices, index);
    }

    int removed(int from, int to) {
        level(from);
        level(to);
        int[] sums = new int[5];
        for (int level : new int[] {from, to}) {
            sums[level] = linesOf(level).stream().mapToInt(List::size).sum();
        }
        return sums[Math.min(from, to)] - sums[Math.max(from, to)];
    }

    int extent(int level, int line) {
        List<Vertex> vertices = line(level, line);
        int sum = 0;
        for (int i = 1; i < vertices.size(); i++) {
            Vertex a = vertices.get(i - 1);
            Vertex b = vertices.get(i);
            sum += Math.abs(a.x - b.x) + Math.abs(a.y - b.y);
        }
        return sum;
    }

    int mostSimplified(int level) {
        level(level);
        for (int loss = 10; loss > 0; loss--) {
            for (int line = 0; line < state.lines.size(); line++) {
                if (state.lines.get(line).size() - linesOf(level).get(line).size() == loss) {
                    return line;
                }
            }
        }
        throw new NoSuchElementException();
    }

    int lineAt(int level, int x, int y) {
        range(level, 0, 4, x, 0, 63, y, 0, 63);
        List<List<Vertex>> lines = linesOf(level);
        for (int line = 0; line < lines.size(); line++) {
            if (isOn(new Vertex(x, y), lines.get(line))) {
                return line;
            }
        }
        return -1;
    }

    int parcelAt(int level, int column, int row) {
        range(level, 0, 4, column, 0, 7, row, 0, 7);
        return fieldsOf(level)[column][row];
    }

    int area(int level, int parcel) {
        level(level);
        index(parcel, 16);
        return areaOf(fieldsOf(level), parcel);
    }

    int border(int level, int one, int other) {
        level(level);
        index(one, 16);
        index(other, 16);
        return borderOf(fieldsOf(level), one, other);
    }

    int neighbors(int level, int parcel) {
        level(level);
        index(parcel, 16);
        int set = 0;
        for (int other = 0; other < 16; other++) {
            set += borderOf(fieldsOf(level), parcel, other) > 0 ? 1 << other : 0;
        }
        return set;
    }

    int became(int level, int parcel) {
        level(level);
        index(parcel, 16);
        if (areaOf(state.fields, parcel) == 0) {
            throw new NoSuchElementException();
        }
        Map<Integer, Integer> chain = new HashMap<>();
        fieldsOf(level, chain);
        int last = parcel;
        while (chain.containsKey(last)) {
            last = chain.get(last);
        }
        return last;
    }

    int parcels(int level, int kind) {
        range(level, 0, 4, kind, -1, 3);
        int number = 0;
        for (int parcel = 0; parcel < 16; parcel++) {
            boolean counts = kind == -1 || state.kinds[parcel] == kind;
            number += counts && areaOf(fieldsOf(level), parcel) > 0 ? 1 : 0;
        }
        return number;
    }

    int leftOver(int level) {
        level(level);
        int number = 0;
        for (int parcel = 0; parcel < 16; parcel++) {
            int area = areaOf(fieldsOf(level), parcel);
            number += area > 0 && area < state.settings[level][1] ? 1 : 0;
        }
        return number;
    }

    int outline(int level, int kind) {
        range(level, 0, 4, kind, 0, 3);
        int[][] fields = fieldsOf(level);
        int number = 0;
        for (int c = 0; c < 8; c++) {
            for (int r = 0; r < 8; r++) {
                boolean inside = fields[c][r] >= 0 && state.kinds[fields[c][r]] == kind;
                if (c < 7) {
                    boolean next = fields[c + 1][r] >= 0 && state.kinds[fields[c + 1][r]] == kind;
                    number += inside ^ next ? 1 : 0;
                }
                if (r < 7) {
                    boolean next = fields[c][r + 1] >= 0 && state.kinds[fields[c][r + 1]] == kind;
                    number += inside ^ next ? 1 : 0;
                }
            }
        }
        return number;
    }

    int shown(int level) {
        level(level);
        return order(level).stream().mapToInt(p -> 1 << p).sum();
    }

    int position(int level, int point) {
        level(level);
        index(point, state.points.size());
        return isShown(level, point) ? labelsOf(level).get(point)[4] : -1;
    }

    int refusal(int level, int point, int position) {
        range(level, 0, 4, position, 0, 3);
        index(point, state.points.size());
        if (!isShown(level, point)) {
            throw new IllegalStateException();
        }
        return labelsOf(level).get(point)[position];
    }

    int labels(int level) {
        level(level);
        return (int) labelsOf(level).values().stream().filter(a -> a[4] >= 0).count();
    }

    int labelAt(int level, int x, int y) {
        range(level, 0, 4, x, 0, 63, y, 0, 63);
        Map<Integer, int[]> labels = labelsOf(level);
        for (int point : labels.keySet()) {
            int position = labels.get(point)[4];
            if (position >= 0 && cells(point, position).contains(new Vertex(x, y))) {
                return point;
            }
        }
        return -1;
    }

    int covered(int level) {
        level(level);
        Map<Integer, int[]> labels = labelsOf(level);
        int number = 0;
        for (int point : labels.keySet()) {
            number += labels.get(point)[4] >= 0 ? cells(point, labels.get(point)[4]).size() : 0;
        }
        return number;
    }

    double placedShare(int level) {
        level(level);
        if (order(level).isEmpty()) {
            throw new ArithmeticException();
        }
        return (double) labels(level) / (double) order(level).size();
    }

    int placedOn(int point) {
        index(point, state.points.size());
        int set = 0;
        for (int level = 0; level < 5; level++) {
            set += position(level, point) >= 0 ? 1 << level : 0;
        }
        return set;
    }

    int append(char character) {
        range(character, 32, 126);
        if (input.length() == 60) {
            throw new IllegalStateException();
        }
        input += character;
        return input.length();
    }

    int read() {
        String text = input;
        input = "";
        if (!TEXT.matcher(text).matches()) {
            error = firstDeadEnd(text);
            throw new IllegalArgumentException();
        }
        State before = state.copy();
        String[] entries = text.split(";");
        for (String entry : entries) {
            String failure = make(entry);
            if (!failure.isEmpty()) {
                state = before;
                if (failure.equals("unsupported")) {
                    throw new UnsupportedOperationException();
                }
                throw new IllegalStateException();
            }
        }
        State after = state;
        state = before;
        change();
        state = after;
        return entries.length;
    }

    private static int firstDeadEnd(String text) {
        for (int k = 0; k < text.length(); k++) {
            Matcher matcher = TEXT.matcher(text.substring(0, k + 1));
            if (!matcher.matches() && !matcher.hitEnd()) {
                return k;
            }
        }
        return text.length();
    }

    private String make(String entry) {
        String[] parts = entry.substring(1).split("[,\\-rwh=]");
        if (entry.charAt(0) == 'F') {
            state.fields[parts[0].charAt(0) - '0'][parts[0].charAt(1) - '0'] = Integer.parseInt(parts[1]);
            return "";
        }
        int[] n = Arrays.stream(parts).mapToInt(Integer::parseInt).toArray();
        if (entry.charAt(0) == 'P') {
            Vertex at = new Vertex(n[0], n[1]);
            boolean taken = state.points.stream().anyMatch(p -> p.at.equals(at))
                    || state.lines.stream().anyMatch(l -> isOn(at, l));
            if (taken || state.points.size() == 12) {
                return "state";
            }
            state.points.add(new Place(at, n[2], n[3], n[4], 0));
            return "";
        }
        List<Vertex> line = new ArrayList<>();
        for (int i = 0; i < n.length; i += 2) {
            line.add(new Vertex(n[i], n[i + 1]));
        }
        if (!simple(line) || state.lines.stream().anyMatch(l -> common(l, line))
                || state.points.stream().anyMatch(p -> isOn(p.at, line))) {
            return "unsupported";
        }
        if (state.lines.size() == 6) {
            return "state";
        }
        state.lines.add(line);
        return "";
    }

    int errorPosition() {
        if (error < 0) {
            throw new NoSuchElementException();
        }
        return error;
    }

    int describe(int level, int line, int index) {
        List<String> parts = new ArrayList<>();
        for (Vertex v : line(level, line)) {
            parts.add(v.x + "," + v.y);
        }
        String text = "L" + String.join("-", parts) + ";";
        if (index == -1) {
            return text.length();
        }
        if (index < 0 || index >= text.length()) {
            throw new NoSuchElementException();
        }
        return text.charAt(index);
    }

    int undo() {
        if (past.isEmpty()) {
            throw new NoSuchElementException();
        }
        state = past.removeLast();
        return past.size();
    }

    int save() {
        saved = state.copy();
        return state.lines.size();
    }

    int restore() {
        if (saved == null) {
            throw new IllegalStateException();
        }
        state = saved.copy();
        past.clear();
        return state.lines.size();
    }
}
