import java.util.ArrayList;
import java.util.Arrays;
import java.util.Collections;
import java.util.List;
import java.util.Map;
import java.util.Random;
import java.util.TreeMap;
import java.util.concurrent.Callable;

/** Random runs of calls, of which each one must be answered as the model answers it. */
public final class ModelTest {
    private static final int RUNS = Integer.getInteger("runs", 1500);
    /** Nothing is promised about an object after its 512th call. */
    private static final int CALLS = 512;
    private static final int CALLS_BEFORE_LAST = 420;
    private static final String NOISE = "LPF0123456789,-;=rwh ~";

    private final Random random;
    private final int run;
    private final MapGeneralizer it = new MapGeneralizer();
    private final Model model = new Model();
    private final StringBuilder trace = new StringBuilder();
    /** How far lines, points and parcels are spread: small spreads make them get in each other's way. */
    private final int spread;
    private final List<int[]> lastLine = new ArrayList<>();
    private int calls = 0;
    private int wrong = 0;
    private static final int[] whySeen = new int[5];
    private static final int[] refusalSeen = new int[5];
    private static final Map<String, Integer> SEEN = new TreeMap<>();

    private ModelTest(int run) {
        this.run = run;
        this.random = new Random(run);
        this.spread = new int[] {8, 14, 24, 64}[run % 4];
    }

    public static void main(String[] args) {
        int wrong = 0;
        for (int run = 0; run < RUNS && wrong < 10; run++) {
            wrong += new ModelTest(run).play();
        }
        for (int reason = 1; reason < 5; reason++) {
            if (whySeen[reason] < 20 || refusalSeen[reason] < 20) {
                wrong++;
                System.out.println("the runs show too little of reason " + reason);
            }
        }
        if (args.length > 0) {
            SEEN.forEach((k, v) -> System.out.println(v + " " + k));
            System.out.println(Arrays.toString(whySeen) + Arrays.toString(refusalSeen));
        }
        System.out.println(wrong == 0 ? "all runs are as the model's" : "runs are not as the model's");
        if (wrong != 0) {
            System.exit(1);
        }
    }

    private int play() {
        int start = random.nextInt(8);
        for (int i = 0; i < start; i++) {
            tellText();
            addPoint();
            paint();
        }
        while (calls < CALLS_BEFORE_LAST && wrong == 0) {
            int kind = random.nextInt(100);
            if (kind < 6) {
                tellText();
            } else if (kind < 24) {
                change();
            } else if (kind < 27) {
                goBack();
            } else {
                ask();
            }
        }
        askAllOfLines();
        return wrong;
    }

    /** Vertices of all levels in any order, by all that can be asked of them, with the calls that are left. */
    private void askAllOfLines() {
        int tolerance = 40 + random.nextInt(460);
        due("set(4,0," + tolerance + ")", () -> it.set(4, 0, tolerance), () -> model.set(4, 0, tolerance));
        List<int[]> all = new ArrayList<>();
        for (int level = 0; level < 5; level++) {
            for (int line = 0; line < lines(); line++) {
                for (int index = 0; index < model.vertices(level, line); index++) {
                    all.add(new int[] {level, line, index});
                }
            }
        }
        Collections.shuffle(all, random);
        for (int[] one : all) {
            askOfVertex(one[0], one[1], one[2]);
        }
    }

    private void askOfVertex(int level, int line, int index) {
        String at = "(" + level + "," + line + "," + index + ")";
        due("vertex" + at, () -> it.vertex(level, line, index, true), () -> model.vertex(level, line, index, true));
        due("vertex" + at, () -> it.vertex(level, line, index, false), () -> model.vertex(level, line, index, false));
        due("weight" + at, () -> it.weight(level, line, index), () -> model.weight(level, line, index));
        if (level == 0) {
            due("lost" + at, () -> it.lost(line, index), () -> model.lost(line, index));
        }
        Object why = due("why" + at, () -> it.why(level, line, index), () -> model.why(level, line, index));
        if (why instanceof Integer reason) {
            whySeen[reason]++;
        }
    }

    private Object outcome(Callable<Object> call) {
        try {
            return call.call();
        } catch (Exception e) {
            return e.getClass().getSimpleName();
        }
    }

    private Object due(String what, Callable<Object> mine, Callable<Object> models) {
        if (calls >= CALLS || wrong > 0) {
            return "";
        }
        calls++;
        Object got = outcome(mine);
        Object want = outcome(models);
        trace.append(what).append(" = ").append(got).append('\n');
        SEEN.merge(what.replaceAll("\\(.*", "") + (want instanceof String ? " " + want : ""), 1, Integer::sum);
        if (!got.equals(want)) {
            wrong++;
            System.out.println("run " + run + ":\n" + trace + "due is " + want);
        }
        return got;
    }

    private int near(int low, int high) {
        if (random.nextInt(25) == 0) {
            return new int[] {low - 1, high + 1, Integer.MIN_VALUE, Integer.MAX_VALUE}[random.nextInt(4)];
        }
        return low + random.nextInt(high - low + 1);
    }

    private int coordinate() {
        return random.nextInt(spread);
    }

    private void tellText() {
        StringBuilder text = new StringBuilder();
        int entries = 1 + random.nextInt(3);
        for (int i = 0; i < entries; i++) {
            int kind = random.nextInt(6);
            if (kind == 0) {
                text.append("F").append(random.nextInt(8)).append(random.nextInt(8)).append('=')
                        .append(random.nextInt(16)).append(';');
            } else if (kind == 1) {
                text.append("P").append(coordinate()).append(',').append(coordinate()).append('r')
                        .append(random.nextInt(10)).append('w').append(2 + random.nextInt(11)).append('h')
                        .append(1 + random.nextInt(4)).append(';');
            } else {
                String line = line();
                boolean fits = text.length() + line.length() <= 60 || random.nextInt(20) == 0;
                text.append(fits ? line : "");
            }
        }
        if (text.length() == 0) {
            text.append("F00=0;");
        }
        if (random.nextInt(6) == 0) {
            spoil(text);
        }
        for (int i = 0; i < text.length(); i++) {
            char c = text.charAt(i);
            due("append(" + c + ")", () -> it.append(c), () -> model.append(c));
        }
        due("read()", it::read, model::read);
        if (random.nextInt(4) == 0) {
            due("errorPosition()", it::errorPosition, model::errorPosition);
        }
    }

    private void spoil(StringBuilder text) {
        int at = random.nextInt(text.length());
        char noise = NOISE.charAt(random.nextInt(NOISE.length()));
        switch (random.nextInt(4)) {
            case 0 -> text.setLength(at);
            case 1 -> text.setCharAt(at, noise);
            case 2 -> text.insert(at, noise);
            default -> text.deleteCharAt(at);
        }
    }

    /** A zigzag from left to right in a band, a walk, vertices anywhere, or the line before, shifted. */
    private String line() {
        int shape = random.nextInt(5);
        if (shape > 2 && !lastLine.isEmpty()) {
            shiftLine(random.nextInt(3) - 1, random.nextBoolean() ? 1 : 2);
        } else {
            drawLine(shape, 2 + random.nextInt(9));
        }
        StringBuilder text = new StringBuilder("L");
        for (int[] vertex : lastLine) {
            text.append(text.length() > 1 ? "-" : "").append(vertex[0]).append(',').append(vertex[1]);
        }
        return text.append(';').toString();
    }

    private void shiftLine(int byX, int byY) {
        for (int[] vertex : lastLine) {
            vertex[0] = clip(vertex[0] + byX);
            vertex[1] = clip(vertex[1] + byY);
        }
        if (lastLine.size() > 2 && random.nextInt(3) == 0) {
            lastLine.remove(random.nextInt(lastLine.size()));
        }
    }

    private void drawLine(int shape, int size) {
        lastLine.clear();
        int x = coordinate();
        int y = coordinate();
        for (int i = 0; i < size; i++) {
            lastLine.add(new int[] {x, y});
            if (shape == 0) {
                x = clip(x + random.nextInt(3));
                y = clip(y + random.nextInt(9) - 4);
            } else if (shape == 1) {
                x = clip(x + random.nextInt(7) - 3);
                y = clip(y + random.nextInt(7) - 3);
            } else {
                x = coordinate();
                y = coordinate();
            }
        }
    }

    private static int clip(int coordinate) {
        return Math.max(0, Math.min(63, coordinate));
    }

    private void change() {
        int a = near(0, 4);
        switch (random.nextInt(10)) {
            case 0, 1 -> addPoint();
            case 2 -> {
                int line = random.nextInt(8) - 1;
                if (random.nextInt(3) == 0) {
                    due("removeLine(" + line + ")", () -> it.removeLine(line), () -> model.removeLine(line));
                }
            }
            case 3 -> {
                int p = near(0, 11);
                if (random.nextInt(2) == 0) {
                    due("removePoint(" + p + ")", () -> it.removePoint(p), () -> model.removePoint(p));
                }
            }
            case 4 -> {
                int p = near(0, Math.max(1, points() - 1));
                int corner = near(0, 3);
                due("setCorner(" + p + "," + corner + ")", () -> it.setCorner(p, corner),
                        () -> model.setCorner(p, corner));
            }
            case 5, 6 -> paint();
            case 7 -> {
                int parcel = near(0, 15);
                int kind = near(0, 3);
                due("setClass(" + parcel + "," + kind + ")", () -> it.setClass(parcel, kind),
                        () -> model.setClass(parcel, kind));
            }
            case 8 -> {
                boolean strict = random.nextBoolean();
                due("setStrict(" + strict + ")", () -> it.setStrict(strict), () -> model.setStrict(strict));
            }
            default -> {
                int setting = near(0, 2);
                int most = setting == 0 ? random.nextBoolean() ? 500 : 40 : setting == 1 ? 20 : 9;
                int value = near(0, most);
                due("set(" + a + "," + setting + "," + value + ")", () -> it.set(a, setting, value),
                        () -> model.set(a, setting, value));
            }
        }
    }

    private void addPoint() {
        int x = random.nextInt(25) == 0 ? near(0, 63) : coordinate();
        int y = random.nextInt(25) == 0 ? near(0, 63) : coordinate();
        int rank = near(0, 9);
        int width = near(2, 12);
        int height = near(1, 4);
        int corner = near(0, 3);
        due("addPoint(" + x + "," + y + "," + rank + "," + width + "," + height + "," + corner + ")",
                () -> it.addPoint(x, y, rank, width, height, corner),
                () -> model.addPoint(x, y, rank, width, height, corner));
    }

    private void paint() {
        int column = near(0, 7);
        int row = near(0, 7);
        int width = near(1, Math.max(1, Math.min(5, 8 - Math.max(0, Math.min(7, column)))));
        int height = near(1, Math.max(1, Math.min(5, 8 - Math.max(0, Math.min(7, row)))));
        int parcel = near(-1, 15);
        due("paint(" + column + "," + row + "," + width + "," + height + "," + parcel + ")",
                () -> it.paint(column, row, width, height, parcel),
                () -> model.paint(column, row, width, height, parcel));
    }

    private void goBack() {
        switch (random.nextInt(12)) {
            case 0 -> {
                if (random.nextInt(6) == 0) {
                    due("clear()", it::clear, model::clear);
                }
            }
            case 1, 2 -> due("save()", it::save, model::save);
            case 3, 4 -> due("restore()", it::restore, model::restore);
            default -> {
                int times = random.nextInt(8) == 0 ? 9 : 1 + random.nextInt(2);
                for (int i = 0; i < times; i++) {
                    due("undo()", it::undo, model::undo);
                }
            }
        }
    }

    private void ask() {
        int level = near(0, 4);
        int line = near(0, Math.max(1, lines() - 1));
        int index = near(0, sizeOf(level, line) - 1);
        switch (random.nextInt(4)) {
            case 0 -> askMap(level, line, index);
            case 1 -> askLines(level, line, index);
            case 2 -> askParcels(level);
            default -> askLabels(level);
        }
    }

    private int lines() {
        return model.count(0);
    }

    private int points() {
        return model.count(1);
    }

    private int sizeOf(int level, int line) {
        boolean isThere = level >= 0 && level < 5 && line >= 0 && line < lines();
        return isThere ? model.vertices(level, line) : 2;
    }

    private void askMap(int level, int line, int index) {
        int setting = near(0, 2);
        int what = near(0, 5);
        int p = near(0, Math.max(1, points() - 1));
        switch (random.nextInt(4)) {
            case 0 -> due("setting(" + level + "," + setting + ")", () -> it.setting(level, setting),
                    () -> model.setting(level, setting));
            case 1 -> due("count(" + what + ")", () -> it.count(what), () -> model.count(what));
            case 2 -> due("point(" + p + "," + what + ")", () -> it.point(p, what), () -> model.point(p, what));
            default -> {
                int at = near(-1, 20);
                due("describe(" + level + "," + line + "," + at + ")", () -> it.describe(level, line, at),
                        () -> model.describe(level, line, at));
            }
        }
    }

    private void askLines(int level, int line, int index) {
        int x = near(0, spread - 1);
        int y = near(0, spread - 1);
        boolean isY = random.nextBoolean();
        String at = "(" + level + "," + line + "," + index + ")";
        switch (random.nextInt(10)) {
            case 0 -> due("vertices" + at, () -> it.vertices(level, line), () -> model.vertices(level, line));
            case 1 -> due("vertex" + at + isY, () -> it.vertex(level, line, index, isY),
                    () -> model.vertex(level, line, index, isY));
            case 2 -> due("lost" + at, () -> it.lost(line, index), () -> model.lost(line, index));
            case 3, 4 -> {
                Object why = due("why" + at, () -> it.why(level, line, index), () -> model.why(level, line, index));
                if (why instanceof Integer reason) {
                    whySeen[reason]++;
                }
            }
            case 5 -> due("weight" + at, () -> it.weight(level, line, index), () -> model.weight(level, line, index));
            case 6 -> {
                int to = near(0, 4);
                due("removed(" + level + "," + to + ")", () -> it.removed(level, to), () -> model.removed(level, to));
            }
            case 7 -> due("extent" + at, () -> it.extent(level, line), () -> model.extent(level, line));
            case 8 -> due("mostSimplified(" + level + ")", () -> it.mostSimplified(level),
                    () -> model.mostSimplified(level));
            default -> due("lineAt(" + level + "," + x + "," + y + ")", () -> it.lineAt(level, x, y),
                    () -> model.lineAt(level, x, y));
        }
    }

    private void askParcels(int level) {
        int one = near(0, 15);
        int other = near(0, 15);
        int kind = near(-1, 3);
        String at = "(" + level + "," + one + "," + other + "," + kind + ")";
        switch (random.nextInt(9)) {
            case 0 -> due("parcelAt" + at, () -> it.parcelAt(level, one / 2, other / 2),
                    () -> model.parcelAt(level, one / 2, other / 2));
            case 1 -> due("area" + at, () -> it.area(level, one), () -> model.area(level, one));
            case 2 -> due("border" + at, () -> it.border(level, one, other), () -> model.border(level, one, other));
            case 3 -> due("neighbors" + at, () -> it.neighbors(level, one), () -> model.neighbors(level, one));
            case 4, 5 -> due("became" + at, () -> it.became(level, one), () -> model.became(level, one));
            case 6 -> due("parcels" + at, () -> it.parcels(level, kind), () -> model.parcels(level, kind));
            case 7 -> due("leftOver" + at, () -> it.leftOver(level), () -> model.leftOver(level));
            default -> due("outline" + at, () -> it.outline(level, kind), () -> model.outline(level, kind));
        }
    }

    private void askLabels(int level) {
        int point = near(0, Math.max(1, points() - 1));
        int position = near(0, 3);
        int x = near(0, spread - 1);
        int y = near(0, spread - 1);
        String at = "(" + level + "," + point + "," + position + ")";
        switch (random.nextInt(9)) {
            case 0 -> due("shown" + at, () -> it.shown(level), () -> model.shown(level));
            case 1 -> due("position" + at, () -> it.position(level, point), () -> model.position(level, point));
            case 2, 3 -> {
                Object reason = due("refusal" + at, () -> it.refusal(level, point, position),
                        () -> model.refusal(level, point, position));
                if (reason instanceof Integer number) {
                    refusalSeen[number]++;
                }
            }
            case 4 -> due("labels" + at, () -> it.labels(level), () -> model.labels(level));
            case 5 -> due("labelAt(" + level + "," + x + "," + y + ")", () -> it.labelAt(level, x, y),
                    () -> model.labelAt(level, x, y));
            case 6 -> due("covered" + at, () -> it.covered(level), () -> model.covered(level));
            case 7 -> due("placedShare" + at, () -> it.placedShare(level), () -> model.placedShare(level));
            default -> due("placedOn" + at, () -> it.placedOn(point), () -> model.placedOn(point));
        }
    }
}
