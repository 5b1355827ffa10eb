/** Sentences about the parcels of levels, promises 23 to 30, at their boundaries. */
final class ParcelEdges {
    private static final String NO_ROW = "......../";

    private ParcelEdges() {
    }

    static void run() {
        parcelAt();
        smallParcels();
        choiceByClass();
        choiceByBorder();
        choiceByArea();
        order();
        borders();
        neighbors();
        became();
        parcels();
        leftOver();
        outline();
        refused();
    }

    /** The calls that paint a row, with a letter from a to p for a parcel, or a point for none. */
    private static MapGeneralizer rows(String... rows) {
        MapGeneralizer map = new MapGeneralizer();
        for (int row = 0; row < rows.length; row++) {
            for (int column = 0; column < rows[row].length(); column++) {
                char letter = rows[row].charAt(column);
                if (letter != '.') {
                    Edge.make(map, "paint(" + column + ", " + row + ", 1, 1, " + (letter - 'a') + ")");
                }
            }
        }
        return map;
    }

    private static String fieldsAre(int level, String firstRow) {
        return "fields(" + level + ") = " + firstRow + "/" + NO_ROW.repeat(7);
    }

    private static void parcelAt() {
        Edge.says(23, "Returns the parcel of a field.");
        Edge.on(rows("a......p", "", "", "", "", "", "", "b......c"), "parcelAt(0, 0, 0) = 0", "parcelAt(0, 7, 0) = 15",
                "parcelAt(0, 0, 7) = 1", "parcelAt(4, 7, 7) = 2", "parcelAt(4, 1, 0) = -1", "parcelAt(0, 0, 6) = -1");
        Edge.says(23, "Returns the number of the parcel, -1 if there is none.");
        Edge.onNew("parcelAt(0, 0, 0) = -1", "parcelAt(4, 7, 7) = -1", "paint(0, 0, 8, 8, 15) = 64",
                "parcelAt(4, 7, 7) = 15", "parcelAt(0, 0, 0) = 15", "paint(0, 0, 8, 8, 0) = 64",
                "parcelAt(0, 7, 7) = 0");
        Edge.says(23, "They are made from those of the level before.");
        Edge.on(rows("abbcccc"), fieldsAre(0, "0112222."), fieldsAre(1, "0112222."), fieldsAre(2, "1112222."),
                fieldsAre(3, "1112222."), fieldsAre(4, "2222222."), "set(2, 1, 1) = 2", fieldsAre(2, "0112222."),
                fieldsAre(3, "1112222."));
        Edge.says(23, "Throws `IllegalArgumentException` if a number is out of range");
        Edge.onNew("parcelAt(-1, 0, 0) = !argument", "parcelAt(5, 0, 0) = !argument", "parcelAt(0, -1, 0) = !argument",
                "parcelAt(0, 8, 0) = !argument", "parcelAt(0, 0, -1) = !argument", "parcelAt(0, 0, 8) = !argument",
                "parcelAt(MAX, MIN, MAX) = !argument");
    }

    private static void smallParcels() {
        Edge.says(24, "A parcel is small if its area is greater than 0 and less than the least area.");
        for (int least = 0; least <= 4; least++) {
            MapGeneralizer map = rows("aa.bbb..");
            Edge.make(map, "set(4, 1, 4)", "set(1, 1, 0)", "set(2, 1, " + Math.min(least, 3) + ")",
                    "set(3, 1, " + Math.min(least, 4) + ")", "set(2, 1, " + least + ")");
            int[] small = {0, 0, 0, 1, 2};
            Edge.on(map, "leftOver(2) = " + small[least]);
        }
        Edge.on(rows("abb"), "area(0, 0) = 1", "area(1, 0) = 1", "area(2, 0) = 0", "area(2, 1) = 3", "area(3, 1) = 3");
        Edge.on(rows("aabbb"), "area(2, 0) = 2", "area(3, 0) = 0", "area(3, 1) = 5");
        Edge.on(rows("aaabbbb"), "area(3, 0) = 3", "area(4, 0) = 0", "area(4, 1) = 7");
        Edge.on(rows("aaaabbbb"), "area(4, 0) = 4", "set(4, 1, 5) = 4", "area(4, 0) = 0", "area(4, 1) = 8");
        MapGeneralizer great = Edge.made("paint(0, 0, 8, 8, 0)", "paint(0, 0, 5, 4, 1)", "set(4, 1, 20)");
        Edge.on(great, "area(4, 1) = 20", "paint(0, 0, 1, 1, 0) = 45", "area(3, 1) = 19", "area(4, 1) = 0",
                "area(4, 0) = 64", "set(4, 1, 19) = 20", "area(4, 1) = 19");
        Edge.says(24, "Returns the area of a parcel.");
        Edge.onNew("paint(0, 0, 8, 8, 15) = 64", "area(0, 15) = 64", "area(4, 15) = 64", "area(4, 14) = 0");
        Edge.says(24, "Returns the area.");
        Edge.onNew("area(0, 0) = 0", "paint(7, 7, 1, 1, 0) = 1", "area(0, 0) = 1", "area(4, 0) = 1");
    }

    private static void choiceByClass() {
        Edge.says(27, "A small parcel is merged into one of its neighbors: one with the same class, if there is one;");
        MapGeneralizer map = rows(".b", "bacc", ".bcc");
        Edge.on(map, "border(0, 0, 1) = 3", "became(2, 0) = 1", "setClass(1, 1) = 0", "became(2, 0) = 2",
                "setClass(0, 1) = 0", "became(2, 0) = 1", "setClass(2, 1) = 0", "setClass(1, 0) = 1",
                "became(2, 0) = 2");
        Edge.says(27, "otherwise, unless merging is strict, any other;");
        Edge.on(map, "setClass(0, 3) = 1", "became(2, 0) = 1", "setStrict(true) = false", "became(4, 0) = 0",
                "setClass(2, 3) = 1", "became(2, 0) = 2", "setClass(2, 2) = 3", "became(4, 0) = 0",
                "setStrict(false) = true", "became(2, 0) = 1");
        Edge.says(27, "Merging is not strict at first.");
        MapGeneralizer other = rows("abb");
        Edge.on(other, "setClass(1, 3) = 0", "became(2, 0) = 1", "setStrict(true) = false", "became(2, 0) = 0",
                "clear() = 0", "paint(0, 0, 1, 1, 0) = 1", "paint(1, 0, 2, 1, 1) = 2", "setClass(1, 3) = 0",
                "became(2, 0) = 1");
    }

    private static void choiceByBorder() {
        Edge.says(27, "of several, the one with the greatest border;");
        Edge.on(rows(".b", "bacc", "..cc"), "border(0, 0, 1) = 2", "border(0, 0, 2) = 1", "became(2, 0) = 1");
        Edge.on(rows(".c", "cabb", "..bb"), "became(2, 0) = 2");
        Edge.on(rows(".b", "bacc", ".ccc"), "border(0, 0, 1) = 2", "border(0, 0, 2) = 2", "became(2, 0) = 2");
        Edge.on(rows(".b", "bacc", ".ccc"), "setClass(1, 1) = 0", "setClass(2, 1) = 0", "became(2, 0) = 2");
    }

    private static void choiceByArea() {
        Edge.says(27, "of these the one with the greatest area, and of these the one with the lowest number.");
        Edge.on(rows("bbbacc"), "became(2, 0) = 1", "paint(6, 0, 1, 1, 2) = 3", "became(2, 0) = 1",
                "paint(7, 0, 1, 1, 2) = 4", "became(2, 0) = 2");
        Edge.on(rows("cccabb"), "became(2, 0) = 2", "paint(6, 0, 1, 1, 1) = 3", "became(2, 0) = 1",
                "paint(0, 0, 1, 1, -1) = 58", "became(2, 0) = 1");
        Edge.on(rows("aapoo"), "became(2, 15) = 0");
        Edge.on(rows("oopaa"), "became(2, 15) = 0");
        Edge.says(27, "All its fields belong to that neighbor then.");
        MapGeneralizer apart = rows("ab.....a", "", "", "", "", "", "", "a......a");
        Edge.on(apart, "set(4, 1, 5) = 4", "area(4, 0) = 5", "set(4, 1, 4) = 5", "paint(1, 0, 1, 5, 1) = 5",
                "set(4, 1, 5) = 4", "area(4, 1) = 9", "area(4, 0) = 0", "parcelAt(4, 7, 7) = 1",
                "parcelAt(4, 0, 7) = 1",
                "parcelAt(4, 7, 0) = 1", "parcelAt(4, 0, 0) = 1", "parcelAt(4, 6, 0) = -1", "became(4, 0) = 1");
    }

    private static void order() {
        Edge.says(27, "As long as there is a small parcel that can be merged, this is done for the one with the least"
                + " area;");
        MapGeneralizer map = rows("aabccc");
        Edge.make(map, "set(2, 1, 3)");
        Edge.on(map, "became(2, 1) = 2", "became(2, 0) = 2");
        Edge.on(rows("abcdefgh"), "set(4, 1, 20) = 4", fieldsAre(1, "01234567"), fieldsAre(2, "11111111"),
                "leftOver(2) = 0", "leftOver(4) = 1");
        Edge.on(rows("abbcccdd"), fieldsAre(2, "11122233"), fieldsAre(3, "11122222"));
        Edge.says(27, "of several, the one with the lowest number.");
        MapGeneralizer equal = rows("aabc");
        Edge.make(equal, "set(2, 1, 3)");
        Edge.on(equal, fieldsAre(2, "0000...."), "became(2, 2) = 0");
        MapGeneralizer turned = rows("cbaa");
        Edge.make(turned, "set(2, 1, 3)");
        Edge.on(turned, fieldsAre(2, "0000...."));
        MapGeneralizer last = rows("aacb");
        Edge.make(last, "set(2, 1, 3)");
        Edge.on(last, fieldsAre(2, "2222...."));
        Edge.says(27, "A parcel that cannot be merged stays, and the others are looked at.");
        Edge.on(rows("a.bc"), fieldsAre(2, "0.22...."), "leftOver(2) = 1", "became(4, 0) = 0");
        MapGeneralizer strict = rows("abbccc");
        Edge.make(strict, "setClass(0, 1)", "setStrict(true)");
        Edge.on(strict, fieldsAre(3, "022222.."), "leftOver(3) = 1", "leftOver(2) = 1", "leftOver(1) = 0");
    }

    private static void borders() {
        Edge.says(25, "The border of two parcels is the number of pairs of fields, one of each parcel, that are next"
                + " to one another in a column or a row;");
        Edge.on(rows("ab"), "border(0, 0, 1) = 1", "border(0, 1, 0) = 1");
        Edge.on(rows("a", "b"), "border(0, 0, 1) = 1", "border(0, 1, 0) = 1");
        Edge.on(rows("......ab"), "border(0, 0, 1) = 1");
        Edge.on(rows("", "", "", "", "", "", ".......a", ".......b"), "border(0, 1, 0) = 1");
        Edge.on(rows("a.", ".b"), "border(0, 0, 1) = 0");
        Edge.on(rows(".a", "b."), "border(0, 0, 1) = 0");
        Edge.on(rows("a.b"), "border(0, 0, 1) = 0");
        Edge.on(rows("a", "", "b"), "border(0, 0, 1) = 0");
        Edge.says(25, "Each pair of fields counts once for a border or an outline, and the edge of the map does not"
                + " count;");
        Edge.on(rows(".......a", "b"), "border(0, 0, 1) = 0");
        Edge.on(rows("a......b"), "border(0, 0, 1) = 0");
        Edge.on(rows("a", "", "", "", "", "", "", "b"), "border(0, 0, 1) = 0");
        Edge.on(Edge.made("paint(0, 0, 8, 8, 0)", "paint(3, 3, 1, 1, 15)"), "border(0, 0, 15) = 4",
                "paint(4, 3, 1, 1, 15) = 2", "border(0, 15, 0) = 6", "border(0, 0, 0) = 0");
        MapGeneralizer checkered = rows("abababab", "babababa", "abababab", "babababa", "abababab", "babababa",
                "abababab", "babababa");
        Edge.on(checkered, "border(0, 0, 1) = 112", "border(4, 1, 0) = 112", "setClass(1, 1) = 0",
                "outline(0, 0) = 112", "outline(4, 1) = 112", "outline(0, 2) = 0");
        Edge.says(25, "Returns the border of two parcels.");
        Edge.on(Edge.made("paint(0, 0, 4, 8, 0)", "paint(4, 0, 4, 8, 15)"), "border(0, 0, 15) = 8",
                "border(4, 15, 0) = 8");
        Edge.says(25, "Returns the border, 0 if both are the same.");
        Edge.on(rows("aab"), "border(0, 0, 0) = 0", "border(0, 1, 1) = 0", "border(0, 15, 15) = 0",
                "border(0, 0, 1) = 1", "border(2, 0, 1) = 0", "border(0, 0, 2) = 0");
        Edge.says(25, "Throws `IndexOutOfBoundsException` if one of the parcels does not exist");
        Edge.onNew("border(0, -1, 0) = !index", "border(0, 0, -1) = !index", "border(0, 16, 0) = !index",
                "border(0, 0, 16) = !index", "border(0, -1, -1) = !index", "border(0, 16, 16) = !index",
                "border(0, 0, 15) = 0", "border(0, 15, 0) = 0", "border(5, 16, 0) = !argument",
                "border(5, 0, 16) = !argument");
    }

    private static void neighbors() {
        Edge.says(26, "parcels with a border greater than 0 are neighbors.");
        Edge.on(rows("a.b"), "border(0, 0, 1) = 0", "neighbors(0, 0) = 0", "paint(1, 0, 1, 1, 1) = 2",
                "border(0, 0, 1) = 1", "neighbors(0, 0) = 2", "neighbors(0, 1) = 1", "paint(0, 1, 2, 1, 1) = 4",
                "border(0, 0, 1) = 2", "neighbors(0, 0) = 2");
        Edge.says(26, "Sets are bit masks, bit k for number k.");
        MapGeneralizer all = new MapGeneralizer();
        Edge.make(all, "paint(0, 0, 8, 8, 0)");
        int among = 0;
        for (int parcel = 1; parcel < 16; parcel++) {
            Edge.make(all, "paint(" + parcel % 4 * 2 + ", " + parcel / 4 * 2 + ", 1, 1, " + parcel + ")");
            among |= 1 << parcel;
            Edge.on(all, "neighbors(0, 0) = " + among, "neighbors(0, " + parcel + ") = 1");
        }
        Edge.says(26, "Returns the neighbors of a parcel.");
        Edge.on(rows("abbcccc"), "neighbors(0, 1) = 5", "neighbors(1, 1) = 5", "neighbors(2, 1) = 4",
                "neighbors(4, 2) = 0", "neighbors(4, 1) = 0");
        Edge.says(26, "Returns the set of parcels.");
        Edge.on(rows("apb"), "neighbors(0, 0) = 32768", "neighbors(0, 15) = 3", "neighbors(0, 14) = 0");
        Edge.onNew("neighbors(0, 0) = 0", "neighbors(4, 15) = 0");
    }

    private static void became() {
        Edge.says(27, "became tells the last parcel of a chain of merges up to its level.");
        Edge.on(rows("abbccccd"), "became(0, 0) = 0", "became(1, 0) = 0", "became(2, 0) = 1", "became(3, 0) = 1",
                "became(4, 0) = 2", "became(4, 1) = 2", "became(4, 2) = 2", "became(1, 3) = 3", "became(2, 3) = 2");
        MapGeneralizer snake = rows("abcdefgh", "ponmlkji");
        Edge.make(snake, "set(4, 1, 20)");
        for (int parcel = 0; parcel < 16; parcel++) {
            Edge.on(snake, "became(0, " + parcel + ") = " + parcel,
                    "became(4, " + parcel + ") = " + Calls.answer(snake, "parcelAt(4, 0, 0)"));
        }
        Edge.on(snake, "parcels(4, -1) = 1", "leftOver(4) = 1");
        Edge.says(27, "Returns the parcel to which the fields of a parcel of level 0 belong.");
        Edge.on(rows("abb"), "became(2, 0) = 1", "became(2, 1) = 1", "became(0, 0) = 0");
        Edge.says(27, "Returns the number of the parcel, which is the same one if it was not merged.");
        Edge.on(rows("p......a"), "became(0, 15) = 15", "became(4, 15) = 15", "became(4, 0) = 0");
        Edge.says(27, "Throws `NoSuchElementException` if its area on level 0 is 0");
        Edge.onNew("became(0, 0) = !element", "became(4, 15) = !element", "paint(0, 0, 1, 1, 15) = 1",
                "became(4, 15) = 15", "paint(1, 0, 2, 1, 0) = 2", "area(2, 15) = 0", "became(2, 15) = 0",
                "paint(0, 0, 1, 1, -1) = 62", "became(2, 15) = !element", "became(0, 15) = !element");
    }

    private static void parcels() {
        Edge.says(28, "Returns the number of parcels with an area greater than 0.");
        MapGeneralizer map = rows("abcdefgh", "ijklmnop");
        Edge.on(map, "parcels(0, -1) = 16", "parcels(0, 0) = 16", "parcels(0, 3) = 0", "setClass(15, 3) = 0",
                "parcels(0, 3) = 1", "parcels(0, 0) = 15", "paint(7, 1, 1, 1, 0) = 2", "parcels(0, 3) = 0",
                "parcels(0, -1) = 15", "parcels(1, -1) = 15", "parcels(0, -2) = !argument",
                "parcels(0, 4) = !argument");
        Edge.says(28, "Returns the number.");
        Edge.onNew("parcels(0, -1) = 0", "parcels(4, 0) = 0", "paint(0, 0, 8, 8, 7) = 64", "parcels(0, -1) = 1",
                "parcels(4, 0) = 1", "parcels(4, 1) = 0");
        Edge.says(28, "Throws `IllegalArgumentException` if a number is out of range");
        Edge.onNew("parcels(-1, -1) = !argument", "parcels(5, -1) = !argument", "parcels(0, MIN) = !argument",
                "parcels(0, MAX) = !argument");
    }

    private static void leftOver() {
        Edge.says(29, "Returns the number of small parcels that could not be merged on a level, by its least area.");
        MapGeneralizer map = rows("a.bb.ccc", "", "dddd");
        Edge.on(map, "leftOver(0) = 0", "leftOver(1) = 0", "leftOver(2) = 1", "leftOver(3) = 2", "leftOver(4) = 3",
                "set(4, 1, 5) = 4", "leftOver(4) = 4", "set(4, 1, 20) = 5", "leftOver(4) = 4", "set(1, 1, 0) = 1",
                "leftOver(1) = 0", "set(1, 1, 2) = 0", "leftOver(1) = 1");
        Edge.says(29, "Returns the number.");
        Edge.onNew("leftOver(0) = 0", "leftOver(4) = 0", "paint(0, 0, 1, 1, 0) = 1", "leftOver(1) = 0",
                "leftOver(2) = 1", "paint(1, 0, 3, 1, 1) = 3", "leftOver(2) = 0", "leftOver(4) = 0");
        MapGeneralizer many = rows("a.b.c.d.", ".e.f.g.h", "i.j.k.l.", ".m.n.o.p");
        Edge.on(many, "leftOver(1) = 0", "leftOver(2) = 16", "leftOver(4) = 16");
    }

    private static void outline() {
        Edge.says(30, "the number of pairs of fields next to one another of which exactly one belongs to a parcel of"
                + " this class.");
        Edge.on(rows("a"), "outline(0, 0) = 2");
        Edge.on(rows(".a"), "outline(0, 0) = 3");
        Edge.on(rows("", ".a"), "outline(0, 0) = 4");
        Edge.on(rows(".......a"), "outline(0, 0) = 2");
        Edge.on(rows("", "", "", "", "", "", "", ".......a"), "outline(0, 0) = 2");
        Edge.on(rows("", "", "", ".......a"), "outline(0, 0) = 3");
        Edge.on(rows("", ".ab"), "outline(0, 0) = 6", "setClass(1, 1) = 0", "outline(0, 0) = 4", "outline(0, 1) = 4");
        Edge.says(30, "a field without a parcel is of no class.");
        Edge.onNew("outline(0, 0) = 0", "paint(0, 0, 8, 8, 0) = 64", "outline(0, 0) = 0", "outline(0, 1) = 0",
                "paint(3, 3, 1, 1, -1) = 1", "outline(0, 0) = 4", "outline(4, 0) = 4", "outline(0, 1) = 0",
                "outline(0, 3) = 0", "setClass(0, 3) = 0", "outline(0, 3) = 4", "outline(0, 0) = 0");
        Edge.says(30, "Returns the outline of a class:");
        MapGeneralizer map = rows("abbcccc");
        Edge.make(map, "setClass(0, 1)", "setClass(1, 2)");
        Edge.on(map, "outline(0, 1) = 2", "outline(0, 2) = 4", "outline(2, 1) = 0", "outline(2, 2) = 4",
                "outline(4, 2) = 0", "outline(4, 0) = 8");
        Edge.says(30, "Returns the number.");
        Edge.onNew("outline(0, 0) = 0", "outline(4, 3) = 0");
        Edge.says(30, "Throws `IllegalArgumentException` if a number is out of range");
        Edge.onNew("outline(-1, 0) = !argument", "outline(5, 0) = !argument", "outline(0, -1) = !argument",
                "outline(0, 4) = !argument", "outline(0, MIN) = !argument", "outline(MAX, MAX) = !argument");
    }

    private static void refused() {
        String[] calls = {"area(%s, %s)", "border(%s, %s, 0)", "neighbors(%s, %s)", "became(%s, %s)"};
        for (int promise = 24; promise <= 27; promise++) {
            String call = calls[promise - 24];
            Edge.says(promise, "Throws `IllegalArgumentException` if level is out of range");
            for (String level : new String[] {"-1", "5", "MIN", "MAX"}) {
                Edge.on(rows("ap"), String.format(call, level, "0") + " = !argument",
                        String.format(call, level, "16") + " = !argument",
                        String.format(call, level, "7") + " = !argument");
            }
            Edge.says(promise, promise == 25 ? "Throws `IndexOutOfBoundsException` if one of the parcels does not exist"
                    : "Throws `IndexOutOfBoundsException` if there is no such parcel");
            for (String parcel : new String[] {"-1", "16", "MIN", "MAX"}) {
                Edge.on(rows("ap"), String.format(call, "0", parcel) + " = !index",
                        String.format(call, "4", parcel) + " = !index");
            }
        }
        Edge.says(29, "Throws `IllegalArgumentException` if level is out of range");
        Edge.onNew("leftOver(-1) = !argument", "leftOver(5) = !argument", "leftOver(MIN) = !argument",
                "leftOver(MAX) = !argument");
    }
}
