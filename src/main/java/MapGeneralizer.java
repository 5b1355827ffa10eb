import java.util.Arrays;
import java.util.NoSuchElementException;

/**
 * A map of lines, points and parcels, and five levels of it, each made from the one before.
 *
 * <p>Vertices and points are held as one number, x * 64 + y: such numbers order the positions of
 * any straight line as they follow one another on it, which the geometry below rests on.
 */
public final class MapGeneralizer {
    private static final int LEVELS = 5;
    private static final int SIDE = 64;
    private static final int SIDE_BITS = 6;
    private static final int SIDE_MASK = 63;
    private static final int MAX_LINES = 6;
    private static final int MIN_VERTICES = 2;
    private static final int MAX_VERTICES = 10;
    private static final int MAX_POINTS = 12;
    private static final int MAX_RANK = 9;
    private static final int MIN_WIDTH = 2;
    private static final int MAX_WIDTH = 12;
    private static final int MIN_HEIGHT = 1;
    private static final int MAX_HEIGHT = 4;
    private static final int POSITIONS = 4;
    private static final int GRID = 8;
    private static final int FIELDS = 64;
    private static final int PARCELS = 16;
    private static final int KINDS = 4;
    private static final int NONE = -1;

    private static final int TOLERANCE = 0;
    private static final int LEAST_AREA = 1;
    private static final int LEAST_RANK = 2;
    private static final int SETTINGS = 3;
    private static final int[] SETTING_LIMITS = {500, 20, 9};
    private static final int[] SETTING_STEPS = {8, 1, 1};

    private static final int X = 0;
    private static final int Y = 1;
    private static final int RANK = 2;
    private static final int WIDTH = 3;
    private static final int HEIGHT = 4;
    private static final int CORNER = 5;
    private static final int POINT_NUMBERS = 6;

    private static final int INPUT_SIZE = 60;
    private static final int LINE_TEXT_SIZE = 61;
    private static final int MAX_CHANGES = 8;

    private static final int MADE = 0;
    private static final int IN_THE_WAY = 1;
    private static final int NO_ROOM = 2;

    private final Sheet sheet;
    private final Sheet draft;
    private final Sheet kept;
    private final History history;
    private final Levels levels;
    private final Script input;
    private final char[] lineText;
    private boolean isKept;
    private int errorIndex;

    public MapGeneralizer() {
        sheet = new Sheet();
        draft = new Sheet();
        kept = new Sheet();
        history = new History();
        levels = new Levels(sheet);
        input = new Script();
        lineText = new char[LINE_TEXT_SIZE];
        isKept = false;
        errorIndex = NONE;
    }

    // ---- the map

    public int clear() {
        int lines = sheet.lines.count;
        sheet.reset();
        history.forget();
        levels.spoil();
        return lines;
    }

    public int addPoint(int x, int y, int rank, int width, int height, int corner)
            throws IllegalArgumentException, UnsupportedOperationException, IllegalStateException {
        if (!isPosition(x, y) || !isWithin(rank, 0, MAX_RANK) || !isWithin(width, MIN_WIDTH, MAX_WIDTH)
                || !isWithin(height, MIN_HEIGHT, MAX_HEIGHT) || !isWithin(corner, 0, POSITIONS - 1)) {
            throw new IllegalArgumentException("a number of the point is out of range");
        }
        if (sheet.isTaken(x * SIDE + y)) {
            throw new UnsupportedOperationException("a point or a line is there");
        }
        if (sheet.points.count >= MAX_POINTS) {
            throw new IllegalStateException("there are 12 points");
        }
        beginChange();
        return sheet.points.put(x, y, rank, width, height, corner);
    }

    public int removeLine(int line) throws IndexOutOfBoundsException {
        requireLine(line);
        beginChange();
        sheet.lines.takeOut(line);
        return sheet.lines.count;
    }

    public int removePoint(int point) throws IndexOutOfBoundsException {
        requirePoint(point);
        beginChange();
        sheet.points.takeOut(point);
        return sheet.points.count;
    }

    public int setCorner(int point, int corner) throws IndexOutOfBoundsException, IllegalArgumentException {
        requirePoint(point);
        if (!isWithin(corner, 0, POSITIONS - 1)) {
            throw new IllegalArgumentException("the corner is out of range");
        }
        beginChange();
        int previous = sheet.points.valueOf(point, CORNER);
        sheet.points.turnTo(point, corner);
        return previous;
    }

    public int paint(int column, int row, int width, int height, int parcel) throws IllegalArgumentException {
        if (!isField(column, row) || !isWithin(parcel, NONE, PARCELS - 1)
                || !isWithin(width, 1, GRID - column) || !isWithin(height, 1, GRID - row)) {
            throw new IllegalArgumentException("the rectangle or the parcel is out of range");
        }
        beginChange();
        for (int r = row; r < row + height; r++) {
            for (int c = column; c < column + width; c++) {
                sheet.parcels.giveField(c, r, parcel);
            }
        }
        return sheet.parcels.areaOf(parcel);
    }

    public int setClass(int parcel, int kind) throws IndexOutOfBoundsException, IllegalArgumentException {
        requireParcel(parcel);
        if (!isWithin(kind, 0, KINDS - 1)) {
            throw new IllegalArgumentException("the class is out of range");
        }
        beginChange();
        int previous = sheet.kinds[parcel];
        sheet.kinds[parcel] = kind;
        return previous;
    }

    public boolean setStrict(boolean isStrict) {
        beginChange();
        boolean previous = sheet.isStrict;
        sheet.isStrict = isStrict;
        return previous;
    }

    public int set(int level, int setting, int value) throws IllegalArgumentException, IllegalStateException {
        if (!isWithin(level, 1, LEVELS - 1) || !isWithin(setting, 0, SETTINGS - 1)
                || !isWithin(value, 0, SETTING_LIMITS[setting])) {
            throw new IllegalArgumentException("the level, the setting or its value is out of range");
        }
        boolean isTooLow = value < sheet.settingOf(level - 1, setting);
        if (isTooLow || level < LEVELS - 1 && value > sheet.settingOf(level + 1, setting)) {
            throw new IllegalStateException("the value does not fit between the levels beside");
        }
        beginChange();
        int previous = sheet.settingOf(level, setting);
        sheet.settings[level * SETTINGS + setting] = value;
        return previous;
    }

    public int setting(int level, int setting) throws IllegalArgumentException {
        requireLevel(level);
        if (!isWithin(setting, 0, SETTINGS - 1)) {
            throw new IllegalArgumentException("the setting is out of range");
        }
        return sheet.settingOf(level, setting);
    }

    public int count(int what) throws IllegalArgumentException {
        switch (what) {
            case 0:
                return sheet.lines.count;
            case 1:
                return sheet.points.count;
            case 2:
                return sheet.parcels.countOf(NONE, sheet.kinds);
            case 3:
                return sheet.parcels.areaOf(NONE);
            case 4:
                return sheet.lines.total();
            default:
                throw new IllegalArgumentException("there is no such count");
        }
    }

    public int point(int point, int what) throws IndexOutOfBoundsException, IllegalArgumentException {
        requirePoint(point);
        if (!isWithin(what, 0, POINT_NUMBERS - 1)) {
            throw new IllegalArgumentException("a point has no such number");
        }
        return sheet.points.valueOf(point, what);
    }

    // ---- lines of levels

    public int vertices(int level, int line) throws IllegalArgumentException, IndexOutOfBoundsException {
        requireLevel(level);
        requireLine(line);
        return levels.linesOf(level).sizes[line];
    }

    public int vertex(int level, int line, int index, boolean isY)
            throws IllegalArgumentException, IndexOutOfBoundsException {
        Lines lines = linesWith(level, line, index);
        int code = lines.codeOf(line, index);
        return isY ? code & SIDE_MASK : code >> SIDE_BITS;
    }

    public int lost(int line, int index) throws IndexOutOfBoundsException {
        requireLine(line);
        requireVertex(sheet.lines, line, index);
        int code = sheet.lines.codeOf(line, index);
        // The vertices of a simple line are all different, so a vertex is known by where it is.
        for (int level = 1; level < LEVELS; level++) {
            if (!levels.linesOf(level).hasVertex(line, code)) {
                return level;
            }
        }
        return LEVELS;
    }

    public int why(int level, int line, int index) throws IllegalArgumentException, IndexOutOfBoundsException {
        Lines lines = linesWith(level, line, index);
        return lines.reasonOf(line, index, sheet.settingOf(level, TOLERANCE), sheet.points);
    }

    public int weight(int level, int line, int index) throws IllegalArgumentException, IndexOutOfBoundsException {
        Lines lines = linesWith(level, line, index);
        return lines.isEnd(line, index) ? NONE : lines.weightOf(line, index);
    }

    public int removed(int from, int to) throws IllegalArgumentException {
        requireLevel(from);
        requireLevel(to);
        int difference = levels.linesOf(from).total() - levels.linesOf(to).total();
        return difference < 0 ? -difference : difference;
    }

    public int extent(int level, int line) throws IllegalArgumentException, IndexOutOfBoundsException {
        requireLevel(level);
        requireLine(line);
        return levels.linesOf(level).extentOf(line);
    }

    public int mostSimplified(int level) throws IllegalArgumentException, NoSuchElementException {
        requireLevel(level);
        Lines lines = levels.linesOf(level);
        int best = NONE;
        int most = 0;
        for (int line = 0; line < lines.count; line++) {
            int loss = sheet.lines.sizes[line] - lines.sizes[line];
            if (loss > most) {
                most = loss;
                best = line;
            }
        }
        if (best == NONE) {
            throw new NoSuchElementException("no line loses a vertex");
        }
        return best;
    }

    public int lineAt(int level, int x, int y) throws IllegalArgumentException {
        requireLevel(level);
        requirePosition(x, y);
        return levels.linesOf(level).lineOver(x * SIDE + y);
    }

    // ---- parcels of levels

    public int parcelAt(int level, int column, int row) throws IllegalArgumentException {
        requireLevel(level);
        if (!isField(column, row)) {
            throw new IllegalArgumentException("the column or the row is out of range");
        }
        return levels.parcelsOf(level).owners[row * GRID + column];
    }

    public int area(int level, int parcel) throws IllegalArgumentException, IndexOutOfBoundsException {
        requireLevel(level);
        requireParcel(parcel);
        return levels.parcelsOf(level).areaOf(parcel);
    }

    public int border(int level, int one, int other) throws IllegalArgumentException, IndexOutOfBoundsException {
        requireLevel(level);
        requireParcel(one);
        requireParcel(other);
        Parcels parcels = levels.parcelsOf(level);
        parcels.measureBorders(one);
        return parcels.borders[other];
    }

    public int neighbors(int level, int parcel) throws IllegalArgumentException, IndexOutOfBoundsException {
        requireLevel(level);
        requireParcel(parcel);
        Parcels parcels = levels.parcelsOf(level);
        parcels.measureBorders(parcel);
        int set = 0;
        for (int other = 0; other < PARCELS; other++) {
            if (parcels.borders[other] > 0) {
                set |= 1 << other;
            }
        }
        return set;
    }

    public int became(int level, int parcel)
            throws IllegalArgumentException, IndexOutOfBoundsException, NoSuchElementException {
        requireLevel(level);
        requireParcel(parcel);
        // The fields of a parcel stay together in every merge, so any one of them tells the end of the chain.
        int field = sheet.parcels.firstFieldOf(parcel);
        if (field == NONE) {
            throw new NoSuchElementException("the parcel has no field on level 0");
        }
        return levels.parcelsOf(level).owners[field];
    }

    public int parcels(int level, int kind) throws IllegalArgumentException {
        requireLevel(level);
        if (!isWithin(kind, NONE, KINDS - 1)) {
            throw new IllegalArgumentException("the class is out of range");
        }
        return levels.parcelsOf(level).countOf(kind, sheet.kinds);
    }

    public int leftOver(int level) throws IllegalArgumentException {
        requireLevel(level);
        return levels.parcelsOf(level).countSmall(sheet.settingOf(level, LEAST_AREA));
    }

    public int outline(int level, int kind) throws IllegalArgumentException {
        requireLevel(level);
        if (!isWithin(kind, 0, KINDS - 1)) {
            throw new IllegalArgumentException("the class is out of range");
        }
        return levels.parcelsOf(level).outlineOf(kind, sheet.kinds);
    }

    // ---- labels of levels

    public int shown(int level) throws IllegalArgumentException {
        requireLevel(level);
        int set = 0;
        for (int point = 0; point < sheet.points.count; point++) {
            if (isShown(level, point)) {
                set |= 1 << point;
            }
        }
        return set;
    }

    public int position(int level, int point) throws IllegalArgumentException, IndexOutOfBoundsException {
        requireLevel(level);
        requirePoint(point);
        return levels.labelsOf(level).places[point];
    }

    public int refusal(int level, int point, int position)
            throws IllegalArgumentException, IndexOutOfBoundsException, IllegalStateException {
        requireLevel(level);
        if (!isWithin(position, 0, POSITIONS - 1)) {
            throw new IllegalArgumentException("the position is out of range");
        }
        requirePoint(point);
        if (!isShown(level, point)) {
            throw new IllegalStateException("the point is not shown");
        }
        return levels.labelsOf(level).reasonAgainst(point, position);
    }

    public int labels(int level) throws IllegalArgumentException {
        requireLevel(level);
        return levels.labelsOf(level).countPlaced();
    }

    public int labelAt(int level, int x, int y) throws IllegalArgumentException {
        requireLevel(level);
        requirePosition(x, y);
        return levels.labelsOf(level).labelOver(x, y);
    }

    public int covered(int level) throws IllegalArgumentException {
        requireLevel(level);
        return levels.labelsOf(level).coveredByAll();
    }

    public double placedShare(int level) throws IllegalArgumentException, ArithmeticException {
        requireLevel(level);
        int number = Integer.bitCount(shown(level));
        if (number == 0) {
            throw new ArithmeticException("no point is shown");
        }
        return (double) levels.labelsOf(level).countPlaced() / (double) number;
    }

    public int placedOn(int point) throws IndexOutOfBoundsException {
        requirePoint(point);
        int set = 0;
        for (int level = 0; level < LEVELS; level++) {
            if (levels.labelsOf(level).places[point] != NONE) {
                set |= 1 << level;
            }
        }
        return set;
    }

    // ---- texts, history and saving

    public int append(char character) throws IllegalArgumentException, IllegalStateException {
        if (character < 32 || character > 126) {
            throw new IllegalArgumentException("the character code is out of range");
        }
        if (input.length >= INPUT_SIZE) {
            throw new IllegalStateException("the input has 60 characters");
        }
        return input.take(character);
    }

    public int read() throws IllegalArgumentException, UnsupportedOperationException, IllegalStateException {
        int entries = input.countEntries();
        if (entries == NONE) {
            errorIndex = input.at;
            input.length = 0;
            throw new IllegalArgumentException("the input is not a text");
        }
        // The draft takes the entries, so that the map stays as it is if one of them cannot be made.
        draft.copyFrom(sheet);
        int outcome = draft.makeEntries(input, entries);
        input.length = 0;
        if (outcome == IN_THE_WAY) {
            throw new UnsupportedOperationException("a line cannot be added");
        }
        if (outcome == NO_ROOM) {
            throw new IllegalStateException("there is no room for a line, or a point cannot be added");
        }
        beginChange();
        sheet.copyFrom(draft);
        return entries;
    }

    public int errorPosition() throws NoSuchElementException {
        if (errorIndex == NONE) {
            throw new NoSuchElementException("no error position was kept");
        }
        return errorIndex;
    }

    public int describe(int level, int line, int index)
            throws IllegalArgumentException, IndexOutOfBoundsException, NoSuchElementException {
        requireLevel(level);
        requireLine(line);
        int length = levels.linesOf(level).write(line, lineText);
        if (index == NONE) {
            return length;
        }
        if (index < 0 || index >= length) {
            throw new NoSuchElementException("there is no such character");
        }
        return lineText[index];
    }

    public int undo() throws NoSuchElementException {
        if (history.size == 0) {
            throw new NoSuchElementException("no change is remembered");
        }
        history.takeBack(sheet);
        levels.spoil();
        return history.size;
    }

    public int save() {
        kept.copyFrom(sheet);
        isKept = true;
        return sheet.lines.count;
    }

    public int restore() throws IllegalStateException {
        if (!isKept) {
            throw new IllegalStateException("nothing was saved");
        }
        sheet.copyFrom(kept);
        history.forget();
        levels.spoil();
        return sheet.lines.count;
    }

    // ---- what the methods above share

    private static boolean isWithin(int number, int least, int most) {
        return number >= least && number <= most;
    }

    private static boolean isPosition(int x, int y) {
        return isWithin(x, 0, SIDE - 1) && isWithin(y, 0, SIDE - 1);
    }

    private static boolean isField(int column, int row) {
        return isWithin(column, 0, GRID - 1) && isWithin(row, 0, GRID - 1);
    }

    private static void requireLevel(int level) {
        if (!isWithin(level, 0, LEVELS - 1)) {
            throw new IllegalArgumentException("the level is out of range");
        }
    }

    private static void requirePosition(int x, int y) {
        if (!isPosition(x, y)) {
            throw new IllegalArgumentException("a coordinate is out of range");
        }
    }

    private static void requireParcel(int parcel) {
        if (!isWithin(parcel, 0, PARCELS - 1)) {
            throw new IndexOutOfBoundsException("there is no such parcel");
        }
    }

    private static void requireVertex(Lines lines, int line, int index) {
        if (index < 0 || index >= lines.sizes[line]) {
            throw new IndexOutOfBoundsException("there is no such vertex");
        }
    }

    private void requireLine(int line) {
        if (line < 0 || line >= sheet.lines.count) {
            throw new IndexOutOfBoundsException("there is no such line");
        }
    }

    private void requirePoint(int point) {
        if (point < 0 || point >= sheet.points.count) {
            throw new IndexOutOfBoundsException("there is no such point");
        }
    }

    private Lines linesWith(int level, int line, int index) {
        requireLevel(level);
        requireLine(line);
        Lines lines = levels.linesOf(level);
        requireVertex(lines, line, index);
        return lines;
    }

    private boolean isShown(int level, int point) {
        return sheet.points.valueOf(point, RANK) >= sheet.settingOf(level, LEAST_RANK);
    }

    /** Every exception of a change is thrown before this call, so that none of them is remembered. */
    private void beginChange() {
        history.remember(sheet);
        levels.spoil();
    }

    /** Exact geometry of positions that are held as one number each. */
    private static final class Geometry {
        private Geometry() {
        }

        /** Two times the area of the triangle, negative if it is turned the other way. */
        static int turn(int a, int b, int c) {
            int ax = a >> SIDE_BITS;
            int ay = a & SIDE_MASK;
            return ((b >> SIDE_BITS) - ax) * ((c & SIDE_MASK) - ay) - ((b & SIDE_MASK) - ay) * ((c >> SIDE_BITS) - ax);
        }

        static boolean isOnSegment(int a, int b, int position) {
            boolean isBetween = a < b ? a <= position && position <= b : b <= position && position <= a;
            return isBetween && turn(a, b, position) == 0;
        }

        /** Whether the segments from a to b and from c to d have something in common. */
        static boolean meet(int a, int b, int c, int d) {
            if ((a < b ? b : a) < (c < d ? c : d) || (c < d ? d : c) < (a < b ? a : b)) {
                return false;
            }
            int abX = (b >> SIDE_BITS) - (a >> SIDE_BITS);
            int abY = (b & SIDE_MASK) - (a & SIDE_MASK);
            int cdX = (d >> SIDE_BITS) - (c >> SIDE_BITS);
            int cdY = (d & SIDE_MASK) - (c & SIDE_MASK);
            int acX = (c >> SIDE_BITS) - (a >> SIDE_BITS);
            int acY = (c & SIDE_MASK) - (a & SIDE_MASK);
            int sideOfC = abX * acY - abY * acX;
            int sideOfD = sideOfC + abX * cdY - abY * cdX;
            int sideOfA = cdY * acX - cdX * acY;
            int sideOfB = sideOfA + cdX * abY - cdY * abX;
            return sideOfC * sideOfD <= 0 && sideOfA * sideOfB <= 0;
        }

        /** Whether the segment from b to c goes back on the one from a to b. */
        static boolean foldsBack(int a, int b, int c) {
            int baX = (a >> SIDE_BITS) - (b >> SIDE_BITS);
            int baY = (a & SIDE_MASK) - (b & SIDE_MASK);
            int bcX = (c >> SIDE_BITS) - (b >> SIDE_BITS);
            int bcY = (c & SIDE_MASK) - (b & SIDE_MASK);
            return baX * bcY == baY * bcX && baX * bcX + baY * bcY > 0;
        }
    }

    /** Lines with their vertices, of the map or of a level. */
    private static final class Lines {
        final int[] codes = new int[MAX_LINES * MAX_VERTICES];
        final int[] sizes = new int[MAX_LINES];
        int count;

        void copyFrom(Lines other) {
            System.arraycopy(other.codes, 0, codes, 0, codes.length);
            System.arraycopy(other.sizes, 0, sizes, 0, sizes.length);
            count = other.count;
        }

        int codeOf(int line, int index) {
            return codes[line * MAX_VERTICES + index];
        }

        int total() {
            int sum = 0;
            for (int line = 0; line < count; line++) {
                sum += sizes[line];
            }
            return sum;
        }

        void put(int[] vertices, int size) {
            System.arraycopy(vertices, 0, codes, count * MAX_VERTICES, size);
            sizes[count] = size;
            count++;
        }

        void takeOut(int line) {
            int later = count - 1 - line;
            System.arraycopy(codes, (line + 1) * MAX_VERTICES, codes, line * MAX_VERTICES, later * MAX_VERTICES);
            System.arraycopy(sizes, line + 1, sizes, line, later);
            count--;
        }

        void takeOutVertex(int line, int index) {
            int at = line * MAX_VERTICES + index;
            System.arraycopy(codes, at + 1, codes, at, sizes[line] - 1 - index);
            sizes[line]--;
        }

        boolean hasVertex(int line, int code) {
            int start = line * MAX_VERTICES;
            for (int at = start; at < start + sizes[line]; at++) {
                if (codes[at] == code) {
                    return true;
                }
            }
            return false;
        }

        boolean isEnd(int line, int index) {
            return index <= 0 || index >= sizes[line] - 1;
        }

        /** The weight of a vertex that is not an end of its line. */
        int weightOf(int line, int index) {
            int at = line * MAX_VERTICES + index;
            int turn = Geometry.turn(codes[at - 1], codes[at], codes[at + 1]);
            return turn < 0 ? -turn : turn;
        }

        int extentOf(int line) {
            int sum = 0;
            int start = line * MAX_VERTICES;
            for (int at = start; at < start + sizes[line] - 1; at++) {
                sum += Math.abs((codes[at] >> SIDE_BITS) - (codes[at + 1] >> SIDE_BITS));
                sum += Math.abs((codes[at] & SIDE_MASK) - (codes[at + 1] & SIDE_MASK));
            }
            return sum;
        }

        /** The lowest number of a line on which a position is, or none. */
        int lineOver(int position) {
            for (int line = 0; line < count; line++) {
                int start = line * MAX_VERTICES;
                for (int at = start; at < start + sizes[line] - 1; at++) {
                    if (Geometry.isOnSegment(codes[at], codes[at + 1], position)) {
                        return line;
                    }
                }
            }
            return NONE;
        }

        /** Whether a segment has something in common with a line. */
        boolean isMetBy(int a, int b) {
            for (int line = 0; line < count; line++) {
                int start = line * MAX_VERTICES;
                for (int at = start; at < start + sizes[line] - 1; at++) {
                    if (Geometry.meet(a, b, codes[at], codes[at + 1])) {
                        return true;
                    }
                }
            }
            return false;
        }

        static boolean isSimple(int[] vertices, int size) {
            for (int i = 0; i < size - 1; i++) {
                if (vertices[i] == vertices[i + 1]) {
                    return false;
                }
                if (i + 2 < size && Geometry.foldsBack(vertices[i], vertices[i + 1], vertices[i + 2])) {
                    return false;
                }
                for (int j = i + 2; j < size - 1; j++) {
                    if (Geometry.meet(vertices[i], vertices[i + 1], vertices[j], vertices[j + 1])) {
                        return false;
                    }
                }
            }
            return true;
        }

        /** Why a vertex stays, or 0 if it need not. */
        int reasonOf(int line, int index, int tolerance, Points points) {
            if (isEnd(line, index)) {
                return 1;
            }
            if (weightOf(line, index) > tolerance) {
                return 2;
            }
            int at = line * MAX_VERTICES + index;
            if (points.isAnyInTriangle(codes[at - 1], codes[at], codes[at + 1])) {
                return 3;
            }
            return isClearWithout(line, index) ? 0 : 4;
        }

        /** Removes the lightest vertex that need not stay; false if there is none. */
        boolean dropLightest(int tolerance, Points points) {
            int least = tolerance + 1;
            int bestLine = NONE;
            int bestIndex = NONE;
            for (int line = 0; line < count; line++) {
                for (int index = 1; index < sizes[line] - 1; index++) {
                    int weight = weightOf(line, index);
                    if (weight < least && reasonOf(line, index, tolerance, points) == 0) {
                        least = weight;
                        bestLine = line;
                        bestIndex = index;
                    }
                }
            }
            if (bestLine == NONE) {
                return false;
            }
            takeOutVertex(bestLine, bestIndex);
            return true;
        }

        /**
         * Whether a line stays simple and apart from the others without a vertex. All that is new
         * then is the segment between the two beside it, so nothing else is looked at.
         */
        private boolean isClearWithout(int line, int index) {
            int gap = line * MAX_VERTICES + index;
            int a = codes[gap - 1];
            int b = codes[gap + 1];
            for (int other = 0; other < count; other++) {
                int start = other * MAX_VERTICES;
                for (int at = start; at < start + sizes[other] - 1; at++) {
                    if (other == line && at >= gap - 2 && at <= gap + 1) {
                        continue;
                    }
                    if (Geometry.meet(a, b, codes[at], codes[at + 1])) {
                        return false;
                    }
                }
            }
            boolean foldsBefore = index >= 2 && Geometry.foldsBack(codes[gap - 2], a, b);
            boolean foldsBehind = index + 2 < sizes[line] && Geometry.foldsBack(a, b, codes[gap + 2]);
            return !foldsBefore && !foldsBehind;
        }

        /** Writes a line as an entry of a text, and returns its length. */
        int write(int line, char[] text) {
            int length = 0;
            text[length++] = 'L';
            for (int index = 0; index < sizes[line]; index++) {
                if (index > 0) {
                    text[length++] = '-';
                }
                int code = codeOf(line, index);
                length = writeNumber(code >> SIDE_BITS, text, length);
                text[length++] = ',';
                length = writeNumber(code & SIDE_MASK, text, length);
            }
            text[length++] = ';';
            return length;
        }

        private static int writeNumber(int number, char[] text, int length) {
            int next = length;
            if (number >= 10) {
                text[next++] = (char) ('0' + number / 10);
            }
            text[next++] = (char) ('0' + number % 10);
            return next;
        }
    }

    /** The points of the map, six numbers each. */
    private static final class Points {
        final int[] numbers = new int[MAX_POINTS * POINT_NUMBERS];
        int count;

        void copyFrom(Points other) {
            System.arraycopy(other.numbers, 0, numbers, 0, numbers.length);
            count = other.count;
        }

        int valueOf(int point, int what) {
            return numbers[point * POINT_NUMBERS + what];
        }

        int codeOf(int point) {
            int at = point * POINT_NUMBERS;
            return numbers[at + X] * SIDE + numbers[at + Y];
        }

        void turnTo(int point, int corner) {
            numbers[point * POINT_NUMBERS + CORNER] = corner;
        }

        int put(int x, int y, int rank, int width, int height, int corner) {
            int at = count * POINT_NUMBERS;
            numbers[at + X] = x;
            numbers[at + Y] = y;
            numbers[at + RANK] = rank;
            numbers[at + WIDTH] = width;
            numbers[at + HEIGHT] = height;
            numbers[at + CORNER] = corner;
            count++;
            return count - 1;
        }

        void takeOut(int point) {
            int at = point * POINT_NUMBERS;
            int later = (count - 1 - point) * POINT_NUMBERS;
            System.arraycopy(numbers, at + POINT_NUMBERS, numbers, at, later);
            count--;
        }

        boolean isAnyAt(int position) {
            for (int point = 0; point < count; point++) {
                if (codeOf(point) == position) {
                    return true;
                }
            }
            return false;
        }

        boolean isAnyOnSegment(int a, int b) {
            for (int point = 0; point < count; point++) {
                if (Geometry.isOnSegment(a, b, codeOf(point))) {
                    return true;
                }
            }
            return false;
        }

        /**
         * Whether a point is in a triangle or on its sides. A point is outside if it is to the left
         * of one side and to the right of another; if it is on the straight lines of all three
         * sides, the triangle has no area, and lies between the least and the greatest of its
         * corners.
         */
        boolean isAnyInTriangle(int a, int b, int c) {
            for (int point = 0; point < count; point++) {
                int p = codeOf(point);
                int ab = Geometry.turn(a, b, p);
                int bc = Geometry.turn(b, c, p);
                int ca = Geometry.turn(c, a, p);
                if ((ab < 0 || bc < 0 || ca < 0) && (ab > 0 || bc > 0 || ca > 0)) {
                    continue;
                }
                boolean isFlat = ab == 0 && bc == 0 && ca == 0;
                if (!isFlat || (p >= a || p >= b || p >= c) && (p <= a || p <= b || p <= c)) {
                    return true;
                }
            }
            return false;
        }

        /** The least x that a position of the label of a point covers. */
        int leftOf(int point, int position) {
            int at = point * POINT_NUMBERS;
            return position == 0 || position == 3 ? numbers[at + X] + 1 : numbers[at + X] - numbers[at + WIDTH];
        }

        /** The least y that a position of the label of a point covers. */
        int lowOf(int point, int position) {
            int at = point * POINT_NUMBERS;
            return position == 0 || position == 1 ? numbers[at + Y] + 1 : numbers[at + Y] - numbers[at + HEIGHT];
        }
    }

    /** The fields with the parcels that they belong to, of the map or of a level. */
    private static final class Parcels {
        final int[] owners = new int[FIELDS];
        final int[] borders = new int[PARCELS];
        private final int[] areas = new int[PARCELS];

        void copyFrom(Parcels other) {
            System.arraycopy(other.owners, 0, owners, 0, owners.length);
        }

        void giveField(int column, int row, int parcel) {
            owners[row * GRID + column] = parcel;
        }

        /** The area of a parcel, or the number of fields without one. */
        int areaOf(int parcel) {
            int area = 0;
            for (int field = 0; field < FIELDS; field++) {
                if (owners[field] == parcel) {
                    area++;
                }
            }
            return area;
        }

        int firstFieldOf(int parcel) {
            for (int field = 0; field < FIELDS; field++) {
                if (owners[field] == parcel) {
                    return field;
                }
            }
            return NONE;
        }

        /** The number of parcels with fields, of one class or of all. */
        int countOf(int kind, int[] kinds) {
            int number = 0;
            for (int parcel = 0; parcel < PARCELS; parcel++) {
                if ((kind == NONE || kinds[parcel] == kind) && firstFieldOf(parcel) != NONE) {
                    number++;
                }
            }
            return number;
        }

        int countSmall(int leastArea) {
            measureAreas();
            int number = 0;
            for (int parcel = 0; parcel < PARCELS; parcel++) {
                if (areas[parcel] > 0 && areas[parcel] < leastArea) {
                    number++;
                }
            }
            return number;
        }

        private void measureAreas() {
            Arrays.fill(areas, 0);
            for (int field = 0; field < FIELDS; field++) {
                if (owners[field] != NONE) {
                    areas[owners[field]]++;
                }
            }
        }

        /** Puts the borders of one parcel with all the others into their row. */
        void measureBorders(int parcel) {
            Arrays.fill(borders, 0);
            for (int field = 0; field < FIELDS; field++) {
                if (field % GRID < GRID - 1) {
                    addToBorder(parcel, owners[field], owners[field + 1]);
                }
                if (field + GRID < FIELDS) {
                    addToBorder(parcel, owners[field], owners[field + GRID]);
                }
            }
        }

        private void addToBorder(int parcel, int one, int other) {
            if (one == other || one == NONE || other == NONE) {
                return;
            }
            if (one == parcel) {
                borders[other]++;
            } else if (other == parcel) {
                borders[one]++;
            }
        }

        int outlineOf(int kind, int[] kinds) {
            int number = 0;
            for (int field = 0; field < FIELDS; field++) {
                boolean isInside = isOfKind(field, kind, kinds);
                if (field % GRID < GRID - 1 && isInside != isOfKind(field + 1, kind, kinds)) {
                    number++;
                }
                if (field + GRID < FIELDS && isInside != isOfKind(field + GRID, kind, kinds)) {
                    number++;
                }
            }
            return number;
        }

        private boolean isOfKind(int field, int kind, int[] kinds) {
            int owner = owners[field];
            return owner != NONE && kinds[owner] == kind;
        }

        /** The neighbor into which a parcel is merged, or none. */
        private int heirOf(int parcel, int[] kinds, boolean isStrict) {
            measureBorders(parcel);
            int heir = NONE;
            for (int other = 0; other < PARCELS; other++) {
                boolean isOpen = borders[other] > 0 && (!isStrict || kinds[other] == kinds[parcel]);
                if (isOpen && (heir == NONE || isBetterHeir(other, heir, kinds, kinds[parcel]))) {
                    heir = other;
                }
            }
            return heir;
        }

        /** Whether a neighbor with a higher number comes before another one. */
        private boolean isBetterHeir(int other, int heir, int[] kinds, int kind) {
            boolean isSame = kinds[other] == kind;
            if (isSame != (kinds[heir] == kind)) {
                return isSame;
            }
            if (borders[other] != borders[heir]) {
                return borders[other] > borders[heir];
            }
            return areas[other] > areas[heir];
        }

        /** Merges the smallest of the small parcels that can be merged; false if there is none. */
        boolean mergeSmallest(int leastArea, int[] kinds, boolean isStrict) {
            measureAreas();
            int least = leastArea;
            int smallest = NONE;
            int heir = NONE;
            for (int parcel = 0; parcel < PARCELS; parcel++) {
                if (areas[parcel] > 0 && areas[parcel] < least) {
                    int next = heirOf(parcel, kinds, isStrict);
                    if (next != NONE) {
                        least = areas[parcel];
                        smallest = parcel;
                        heir = next;
                    }
                }
            }
            if (smallest == NONE) {
                return false;
            }
            for (int field = 0; field < FIELDS; field++) {
                if (owners[field] == smallest) {
                    owners[field] = heir;
                }
            }
            return true;
        }
    }

    /** The labels of a level, with the positions at which they are placed. */
    private static final class Labels {
        final int[] places = new int[MAX_POINTS];
        private final Points points;
        private final Lines lines;
        private int leastRank;

        Labels(Points points, Lines lines) {
            this.points = points;
            this.lines = lines;
        }

        void placeAll(int least) {
            leastRank = least;
            Arrays.fill(places, NONE);
            for (int rank = MAX_RANK; rank >= least; rank--) {
                for (int point = 0; point < points.count; point++) {
                    if (points.valueOf(point, RANK) == rank) {
                        places[point] = firstFree(point);
                    }
                }
            }
        }

        private int firstFree(int point) {
            int corner = points.valueOf(point, CORNER);
            for (int step = 0; step < POSITIONS; step++) {
                int position = (corner + step) % POSITIONS;
                if (reasonAgainst(point, position) == 0) {
                    return position;
                }
            }
            return NONE;
        }

        /** Why a position of a label is refused when the label is placed, or 0 if it is not. */
        int reasonAgainst(int point, int position) {
            int left = points.leftOf(point, position);
            int low = points.lowOf(point, position);
            int right = left + points.valueOf(point, WIDTH) - 1;
            int high = low + points.valueOf(point, HEIGHT) - 1;
            if (left < 0 || low < 0 || right >= SIDE || high >= SIDE) {
                return 1;
            }
            if (coversShownPoint(left, low, right, high)) {
                return 2;
            }
            for (int other = 0; other < points.count; other++) {
                if (places[other] != NONE && isBefore(other, point) && overlaps(other, left, low, right, high)) {
                    return 3;
                }
            }
            return coversVertex(left, low, right, high) ? 4 : 0;
        }

        private boolean isBefore(int one, int other) {
            int difference = points.valueOf(one, RANK) - points.valueOf(other, RANK);
            return difference > 0 || difference == 0 && one < other;
        }

        private boolean coversShownPoint(int left, int low, int right, int high) {
            for (int point = 0; point < points.count; point++) {
                int x = points.valueOf(point, X);
                int y = points.valueOf(point, Y);
                boolean isCovered = x >= left && x <= right && y >= low && y <= high;
                if (isCovered && points.valueOf(point, RANK) >= leastRank) {
                    return true;
                }
            }
            return false;
        }

        private boolean coversVertex(int left, int low, int right, int high) {
            for (int line = 0; line < lines.count; line++) {
                for (int index = 0; index < lines.sizes[line]; index++) {
                    int code = lines.codeOf(line, index);
                    int x = code >> SIDE_BITS;
                    int y = code & SIDE_MASK;
                    if (x >= left && x <= right && y >= low && y <= high) {
                        return true;
                    }
                }
            }
            return false;
        }

        /** Whether the label of a point, as it is placed, covers some of a rectangle. */
        private boolean overlaps(int point, int left, int low, int right, int high) {
            int ownLeft = points.leftOf(point, places[point]);
            int ownLow = points.lowOf(point, places[point]);
            return ownLeft <= right && left < ownLeft + points.valueOf(point, WIDTH)
                    && ownLow <= high && low < ownLow + points.valueOf(point, HEIGHT);
        }

        int labelOver(int x, int y) {
            for (int point = 0; point < points.count; point++) {
                if (places[point] != NONE && overlaps(point, x, y, x, y)) {
                    return point;
                }
            }
            return NONE;
        }

        int countPlaced() {
            int number = 0;
            for (int point = 0; point < points.count; point++) {
                if (places[point] != NONE) {
                    number++;
                }
            }
            return number;
        }

        /** Labels never overlap, so what they cover is the sum of what each one covers. */
        int coveredByAll() {
            int sum = 0;
            for (int point = 0; point < points.count; point++) {
                if (places[point] != NONE) {
                    sum += points.valueOf(point, WIDTH) * points.valueOf(point, HEIGHT);
                }
            }
            return sum;
        }
    }

    /** All that the history and saving hold: the map, its classes and its settings. */
    private static final class Sheet {
        final Lines lines = new Lines();
        final Points points = new Points();
        final Parcels parcels = new Parcels();
        final int[] kinds = new int[PARCELS];
        final int[] settings = new int[LEVELS * SETTINGS];
        boolean isStrict;

        Sheet() {
            reset();
        }

        void reset() {
            lines.count = 0;
            points.count = 0;
            Arrays.fill(parcels.owners, NONE);
            Arrays.fill(kinds, 0);
            for (int level = 0; level < LEVELS; level++) {
                for (int setting = 0; setting < SETTINGS; setting++) {
                    settings[level * SETTINGS + setting] = level * SETTING_STEPS[setting];
                }
            }
            isStrict = false;
        }

        void copyFrom(Sheet other) {
            lines.copyFrom(other.lines);
            points.copyFrom(other.points);
            parcels.copyFrom(other.parcels);
            System.arraycopy(other.kinds, 0, kinds, 0, kinds.length);
            System.arraycopy(other.settings, 0, settings, 0, settings.length);
            isStrict = other.isStrict;
        }

        int settingOf(int level, int setting) {
            return settings[level * SETTINGS + setting];
        }

        /** Whether a point cannot be put at a position because of another point or a line. */
        boolean isTaken(int position) {
            return points.isAnyAt(position) || lines.lineOver(position) != NONE;
        }

        /** Makes the entries of a text one after the other, up to the first one that cannot be made. */
        int makeEntries(Script script, int entries) {
            int outcome = MADE;
            script.at = 0;
            for (int entry = 0; entry < entries && outcome == MADE; entry++) {
                script.passEntry();
                if (script.kind == 'L') {
                    outcome = makeLine(script.numbers, script.size);
                } else if (script.kind == 'P') {
                    outcome = makePoint(script.numbers);
                } else {
                    parcels.giveField(script.numbers[0], script.numbers[1], script.numbers[2]);
                }
            }
            return outcome;
        }

        private int makeLine(int[] vertices, int size) {
            if (!Lines.isSimple(vertices, size)) {
                return IN_THE_WAY;
            }
            for (int i = 0; i < size - 1; i++) {
                int a = vertices[i];
                int b = vertices[i + 1];
                if (lines.isMetBy(a, b) || points.isAnyOnSegment(a, b)) {
                    return IN_THE_WAY;
                }
            }
            if (lines.count >= MAX_LINES) {
                return NO_ROOM;
            }
            lines.put(vertices, size);
            return MADE;
        }

        private int makePoint(int[] numbers) {
            int position = numbers[X] * SIDE + numbers[Y];
            if (isTaken(position) || points.count >= MAX_POINTS) {
                return NO_ROOM;
            }
            points.put(numbers[X], numbers[Y], numbers[RANK], numbers[WIDTH], numbers[HEIGHT], 0);
            return MADE;
        }
    }

    /** The levels, each made when it is first asked for after a change. */
    private static final class Levels {
        private final Sheet sheet;
        private final Lines[] lines = new Lines[LEVELS];
        private final Parcels[] parcels = new Parcels[LEVELS];
        private final Labels[] labels = new Labels[LEVELS];
        private int linesMade;
        private int parcelsMade;
        private int labelsMade;

        Levels(Sheet sheet) {
            this.sheet = sheet;
            for (int level = 0; level < LEVELS; level++) {
                lines[level] = level == 0 ? sheet.lines : new Lines();
                parcels[level] = level == 0 ? sheet.parcels : new Parcels();
                labels[level] = new Labels(sheet.points, lines[level]);
            }
            spoil();
        }

        /** Level 0 is the map itself, and is made always, but for its labels. */
        void spoil() {
            linesMade = 1;
            parcelsMade = 1;
            labelsMade = 0;
        }

        Lines linesOf(int level) {
            for (int next = linesMade; next <= level; next++) {
                lines[next].copyFrom(lines[next - 1]);
                int tolerance = sheet.settingOf(next, TOLERANCE);
                boolean isLighter = true;
                for (int turn = 0; turn < MAX_LINES * MAX_VERTICES && isLighter; turn++) {
                    isLighter = lines[next].dropLightest(tolerance, sheet.points);
                }
                linesMade = next + 1;
            }
            return lines[level];
        }

        Parcels parcelsOf(int level) {
            for (int next = parcelsMade; next <= level; next++) {
                parcels[next].copyFrom(parcels[next - 1]);
                int leastArea = sheet.settingOf(next, LEAST_AREA);
                boolean isFewer = true;
                for (int turn = 0; turn < PARCELS && isFewer; turn++) {
                    isFewer = parcels[next].mergeSmallest(leastArea, sheet.kinds, sheet.isStrict);
                }
                parcelsMade = next + 1;
            }
            return parcels[level];
        }

        Labels labelsOf(int level) {
            if ((labelsMade >> level & 1) == 0) {
                linesOf(level);
                labels[level].placeAll(sheet.settingOf(level, LEAST_RANK));
                labelsMade |= 1 << level;
            }
            return labels[level];
        }
    }

    /** What was before the last changes, the oldest of which gives way to the next one. */
    private static final class History {
        private final Sheet[] sheets = new Sheet[MAX_CHANGES];
        private int next;
        int size;

        History() {
            for (int i = 0; i < MAX_CHANGES; i++) {
                sheets[i] = new Sheet();
            }
        }

        void remember(Sheet sheet) {
            sheets[next].copyFrom(sheet);
            next = (next + 1) % MAX_CHANGES;
            size = Math.min(size + 1, MAX_CHANGES);
        }

        void takeBack(Sheet sheet) {
            next = (next + MAX_CHANGES - 1) % MAX_CHANGES;
            sheet.copyFrom(sheets[next]);
            size--;
        }

        void forget() {
            size = 0;
        }
    }

    /**
     * The input, and what reads it from left to right. Each step either passes characters with
     * which a text may go on, or leaves the index at the first one with which none does.
     */
    private static final class Script {
        private final char[] characters = new char[INPUT_SIZE];
        int length;
        /** The index of the next character. */
        int at;
        /** The first character of the entry passed last. */
        char kind;
        /** What this entry tells: the positions of a line, or the numbers of a point or a field. */
        final int[] numbers = new int[MAX_VERTICES + 1];
        int size;

        int take(char character) {
            characters[length] = character;
            length++;
            return length;
        }

        /** The number of entries, or none if this is not a text; the index is at the error then. */
        int countEntries() {
            at = 0;
            int entries = 0;
            while (at < length && entries < INPUT_SIZE) {
                if (!passEntry()) {
                    return NONE;
                }
                entries++;
            }
            return entries == 0 ? NONE : entries;
        }

        boolean passEntry() {
            size = 0;
            if (at >= length) {
                return false;
            }
            kind = characters[at];
            if (kind == 'L') {
                at++;
                return passVertices() && pass(';');
            }
            if (kind == 'P') {
                at++;
                return passPosition() && pass('r') && passNumber(0, MAX_RANK)
                        && pass('w') && passNumber(MIN_WIDTH, MAX_WIDTH)
                        && pass('h') && passNumber(MIN_HEIGHT, MAX_HEIGHT) && pass(';');
            }
            if (kind == 'F') {
                at++;
                return passNumber(0, GRID - 1) && passNumber(0, GRID - 1)
                        && pass('=') && passNumber(0, PARCELS - 1) && pass(';');
            }
            return false;
        }

        private boolean passVertices() {
            for (int vertex = 0; vertex < MAX_VERTICES; vertex++) {
                if (vertex > 0 && !pass('-')) {
                    return vertex >= MIN_VERTICES;
                }
                if (!passPosition()) {
                    return false;
                }
                joinCoordinates(vertex);
            }
            return true;
        }

        /** Makes one number of the two coordinates of a vertex, which are the latest in the row. */
        private void joinCoordinates(int vertex) {
            numbers[vertex] = numbers[vertex] * SIDE + numbers[vertex + 1];
            size = vertex + 1;
        }

        private boolean passPosition() {
            return passNumber(0, SIDE - 1) && pass(',') && passNumber(0, SIDE - 1);
        }

        private boolean pass(char character) {
            if (at >= length || characters[at] != character) {
                return false;
            }
            at++;
            return true;
        }

        /**
         * Passes a number of a range, which has one or two digits, and puts it into the row. A second
         * digit that keeps it in the range belongs to it.
         */
        private boolean passNumber(int least, int most) {
            int first = digitAt(at);
            boolean canGoOn = first > 0 && first * 10 <= most && first * 10 + 9 >= least;
            if (first == NONE || !canGoOn && !isWithin(first, least, most)) {
                return false;
            }
            at++;
            int value = first;
            int second = canGoOn ? digitAt(at) : NONE;
            if (second != NONE && isWithin(first * 10 + second, least, most)) {
                at++;
                value = first * 10 + second;
            }
            if (!isWithin(value, least, most) || size >= numbers.length) {
                return false;
            }
            numbers[size] = value;
            size++;
            return true;
        }

        private int digitAt(int index) {
            if (index >= length || characters[index] < '0' || characters[index] > '9') {
                return NONE;
            }
            return characters[index] - '0';
        }
    }
}
