/** Sentences about texts, promises 39 to 42, at their boundaries. */
final class TextEdges {
    private static final String DIGITS = "0123456789";
    private static final String NINE_VERTICES = "L0,0-1,1-2,0-3,1-4,0-5,1-6,0-7,1-8,";

    /** The beginnings of texts, each with all characters with which a text can go on. */
    private static final String[][] NEXT = {
        {"", "LPF"}, {"L", DIGITS}, {"L0", ","}, {"L1", DIGITS + ","}, {"L5", DIGITS + ","}, {"L6", "0123,"},
        {"L7", ","}, {"L9", ","}, {"L10", ","}, {"L59", ","}, {"L60", ","}, {"L63", ","}, {"L1,", DIGITS},
        {"L1,0", "-"}, {"L1,1", DIGITS + "-"}, {"L1,5", DIGITS + "-"}, {"L1,6", "0123-"}, {"L1,7", "-"}, {"L1,63", "-"},
        {"L1,1-", DIGITS}, {"L1,1-0", ","}, {"L1,1-2", DIGITS + ","}, {"L1,1-6", "0123,"}, {"L1,1-7", ","},
        {"L1,1-63", ","}, {"L1,1-2,", DIGITS}, {"L1,1-2,0", "-;"}, {"L1,1-2,2", DIGITS + "-;"}, {"L1,1-2,5",
                DIGITS + "-;"},
        {"L1,1-2,6", "0123-;"}, {"L1,1-2,7", "-;"}, {"L1,1-2,63", "-;"}, {"L1,1-2,2;", "LPF"}, {"L1,1-2,2-", DIGITS},
        {NINE_VERTICES, DIGITS}, {NINE_VERTICES + "0", "-;"}, {NINE_VERTICES + "0-9,0", ";"},
        {NINE_VERTICES + "0-9,6", "0123;"}, {NINE_VERTICES + "0-9,63", ";"},
        {"P", DIGITS}, {"P0", ","}, {"P6", "0123,"}, {"P7", ","}, {"P63", ","}, {"P1,", DIGITS}, {"P1,0", "r"},
        {"P1,5", DIGITS + "r"}, {"P1,6", "0123r"}, {"P1,7", "r"}, {"P1,63", "r"}, {"P1,2r", DIGITS}, {"P1,2r0", "w"},
        {"P1,2r1", "w"}, {"P1,2r9", "w"}, {"P1,2r3w", "123456789"}, {"P1,2r3w1", "012"}, {"P1,2r3w2", "h"},
        {"P1,2r3w9", "h"}, {"P1,2r3w10", "h"}, {"P1,2r3w12", "h"}, {"P1,2r3w2h", "1234"}, {"P1,2r3w2h1", ";"},
        {"P1,2r3w2h4", ";"}, {"P1,2r3w2h4;", "LPF"},
        {"F", "01234567"}, {"F0", "01234567"}, {"F7", "01234567"}, {"F00", "="}, {"F77", "="}, {"F00=", DIGITS},
        {"F00=0", ";"}, {"F00=1", "012345;"}, {"F00=2", ";"}, {"F00=9", ";"}, {"F00=10", ";"}, {"F00=15", ";"},
        {"F00=1;", "LPF"}, {"F00=1;P1,2r3w2h1;L5,5-6,6;", "LPF"}, {"F00=1;F11=1;L", DIGITS},
    };

    private TextEdges() {
    }

    static void run() {
        lengthOfInput();
        everyNextCharacter();
        errorPosition();
        keptPosition();
        entries();
        numbersInTexts();
        emptied();
        nothingOfIt();
        refusedLines();
        tooMuch();
        firstOneDecides();
        describe();
    }

    private static String append(MapGeneralizer map, String text) {
        String answer = "";
        for (char character : text.toCharArray()) {
            answer = Calls.answer(map, "append(" + (int) character + ")");
        }
        return answer;
    }

    private static void lengthOfInput() {
        Edge.says(39, "The input is a buffer of at most 60 characters.");
        MapGeneralizer map = new MapGeneralizer();
        for (int length = 1; length <= 60; length++) {
            Edge.on(map, "append(" + (length % 2 == 0 ? 32 : 126) + ") = " + length);
        }
        Edge.on(map, "append(32) = !state", "append(126) = !state", "read() = !argument", "append(32) = 1");
        Edge.says(39, "Throws `IllegalStateException` if the input has 60 characters");
        MapGeneralizer full = new MapGeneralizer();
        Edge.due("58 characters", "58", append(full, "F00=1;".repeat(9) + "F11="));
        Edge.on(full, "append('2') = 59", "append(';') = 60", "append('F') = !state", "append('F') = !state",
                "read() = 10", "append('F') = 1");
        Edge.says(39, "Throws `IllegalArgumentException` if the character code is out of range");
        MapGeneralizer again = new MapGeneralizer();
        Edge.on(again, "append(31) = !argument", "append(127) = !argument", "append(0) = !argument");
        append(again, "F".repeat(60));
        Edge.on(again, "append(31) = !argument", "append(127) = !argument", "append(65535) = !argument",
                "append(32) = !state");
        Edge.says(39, "Appends a character to the input.");
        Edge.on(Edge.made("append('F')", "append('1')", "append('2')", "append('=')", "append('3')"), "append(';') = 6",
                "read() = 1", "parcelAt(0, 1, 2) = 3");
        Edge.says(39, "Returns the new length of the input.");
        Edge.onNew("append('F') = 1", "append('F') = 2", "read() = !argument", "append('F') = 1");
    }

    private static void everyNextCharacter() {
        Edge.says(41, "The error position of a text that is not like this is the smallest index k such that no text"
                + " of this kind starts with the first k + 1 characters of it;");
        for (String[] one : NEXT) {
            String start = one[0];
            boolean isText = start.endsWith(";");
            checkRead(start, isText ? -1 : start.length());
            for (char next = 32; next <= 126; next++) {
                boolean goesOn = one[1].indexOf(next) >= 0;
                boolean ends = goesOn && next == ';';
                checkRead(start + next, ends ? -1 : goesOn ? start.length() + 1 : start.length());
            }
            checkRead(start + "~;L", start.length());
        }
    }

    /** Reads a text on a new object: it is a text if the error position is -1. */
    private static void checkRead(String text, int error) {
        MapGeneralizer map = new MapGeneralizer();
        append(map, text);
        String answer = Calls.answer(map, "read()");
        if (error < 0) {
            Edge.due(text, false, answer.equals("!argument"));
            Edge.on(map, "errorPosition() = !element");
        } else {
            Edge.due(text, "!argument", answer);
            Edge.due(text, String.valueOf(error), Calls.answer(map, "errorPosition()"));
        }
    }

    private static void errorPosition() {
        Edge.says(41, "if there is no such index, it is the length of the text.");
        checkRead("", 0);
        checkRead("L", 1);
        checkRead("F00=1", 5);
        checkRead("F00=1;".repeat(9) + "F11=", 58);
        checkRead("F00=1;".repeat(9) + "F11=1", 59);
        checkRead("F00=1;".repeat(9) + "F11=1;", -1);
        checkRead("F00=1;".repeat(9) + "F11=15", 60);
        checkRead("F00=1;".repeat(9) + "F11=16", 59);
        checkRead("F00=1;".repeat(9) + "L10,10", 60);
        checkRead("F00=1;".repeat(9) + "L10,64", 59);
        checkRead("~" + "F".repeat(59), 0);
        Edge.says(41, "Throws `NoSuchElementException` if none was kept");
        Edge.onNew("errorPosition() = !element", "tell(F00=1;) = 1", "errorPosition() = !element",
                "tell(L0,0-0,0;) = !unsupported", "errorPosition() = !element",
                "tell(F00=1;P1,1r1w2h1;P1,1r1w2h1;) = !state",
                "errorPosition() = !element", "read() = !argument", "errorPosition() = 0");
        Edge.says(41, "Returns the error position.");
        Edge.onNew("tell(L1,64;) = !argument", "errorPosition() = 4", "errorPosition() = 4");
        Edge.says(40, "an empty input is not a text.");
        Edge.onNew("read() = !argument", "errorPosition() = 0", "undo() = !element");
    }

    private static void keptPosition() {
        Edge.says(41, "Returns the error position that was kept last.");
        Edge.onNew("tell(L1,64;) = !argument", "tell(X) = !argument", "errorPosition() = 0", "tell(F00) = !argument",
                "errorPosition() = 3");
        Edge.says(41, "What was saved stays with clear, as do the input and the error position, which also stays when"
                + " a later text is right;");
        Edge.onNew("tell(L1,64;) = !argument", "tell(F00=1;) = 1", "errorPosition() = 4", "clear() = 0",
                "errorPosition() = 4", "tell(L0,0-0,0;) = !unsupported", "errorPosition() = 4", "undo() = !element",
                "save() = 0", "restore() = 0", "errorPosition() = 4");
        Edge.onNew("append('F') = 1", "clear() = 0", "append('1') = 2", "append('1') = 3", "append('=') = 4",
                "append('9') = 5", "append(';') = 6", "clear() = 0", "read() = 1", "parcelAt(0, 1, 1) = 9");
        Edge.on(Edge.made("tell(L0,0-5,5;)", "save()", "clear()"), "count(0) = 0", "restore() = 1", "count(0) = 1",
                "clear() = 1", "restore() = 1");
        Edge.says(40, "the error position is then kept for errorPosition");
        Edge.onNew("tell(P1,1r1w13h1;) = !argument", "errorPosition() = 8");
    }

    private static void entries() {
        Edge.says(40, "A text consists of one or several entries, each followed by a semicolon: L and 2 to 10"
                + " vertices with a minus sign between each two neighboring ones, which adds a line;");
        Edge.onNew("tell(L0,0;) = !argument", "tell(L0,0-1,1;) = 1", "tell(L0,1-1,2-2,2;) = 1",
                "tell(L9,9) = !argument", "tell(L9,9,8,8;) = !argument", "tell(L9,9-8,8) = !argument", "count(4) = 5");
        Edge.onNew("tell(" + NINE_VERTICES + "0;) = 1", "count(4) = 9");
        Edge.onNew("tell(" + NINE_VERTICES + "0-9,1;) = 1", "count(4) = 10",
                "text(0, 0) = " + NINE_VERTICES + "0-9,1;");
        Edge.onNew("tell(" + NINE_VERTICES + "0-9,1-9,2;) = !argument", "count(4) = 0");
        Edge.onNew("tell(F00=1) = !argument", "tell(F00=1;;) = !argument", "tell(;) = !argument", "tell(F00=1;) = 1");
        Edge.says(40, "P, the coordinates of a point, r and a digit for the rank, w and the width, and h and a digit"
                + " for the height, which adds a point with the corner 0;");
        Edge.onNew("tell(P0,0r0w2h1;) = 1", "point(0, 0) = 0", "point(0, 1) = 0", "point(0, 2) = 0", "point(0, 3) = 2",
                "point(0, 4) = 1", "point(0, 5) = 0", "tell(P63,62r9w12h4;) = 1", "point(1, 0) = 63",
                "point(1, 1) = 62",
                "point(1, 2) = 9", "point(1, 3) = 12", "point(1, 4) = 4", "point(1, 5) = 0", "undo() = 1",
                "count(1) = 1");
        Edge.says(40, "or F, a digit from 0 to 7 for the column, a digit from 0 to 7 for the row, an equals sign and"
                + " the number of a parcel, which gives a field to it.");
        Edge.onNew("tell(F00=0;) = 1", "parcelAt(0, 0, 0) = 0", "tell(F70=15;) = 1", "parcelAt(0, 7, 0) = 15",
                "tell(F07=10;) = 1", "parcelAt(0, 0, 7) = 10", "tell(F77=9;) = 1", "parcelAt(0, 7, 7) = 9",
                "count(3) = 60",
                "tell(F80=1;) = !argument", "tell(F08=1;) = !argument", "tell(F00=16;) = !argument", "count(3) = 60");
        Edge.says(40, "Returns the number of entries.");
        Edge.onNew("tell(F00=0;) = 1", "tell(F00=0;F00=0;) = 2", "tell(" + "F00=0;".repeat(9) + ") = 9",
                "tell(" + "F00=0;".repeat(10) + ") = 10", "tell(F00=0;P1,1r1w2h1;L9,9-8,8;) = 3");
    }

    private static void numbersInTexts() {
        Edge.says(40, "Coordinates are a number from 0 to 63 for x, a comma, and such a number for y.");
        Edge.onNew("tell(P0,0r0w2h1;) = 1", "tell(P63,63r0w2h1;) = 1", "tell(P62,62r0w2h1;) = 1",
                "tell(P1,1r0w2h1;) = 1",
                "tell(P64,0r0w2h1;) = !argument", "errorPosition() = 2", "tell(P0,64r0w2h1;) = !argument",
                "errorPosition() = 4", "tell(P-1,0r0w2h1;) = !argument", "errorPosition() = 1",
                "tell(P0.0r0w2h1;) = !argument", "errorPosition() = 2");
        Edge.onNew("tell(L0,63-63,0;) = 1", "tell(L0,63-64,0;) = !argument", "tell(L0,63-63,64;) = !argument",
                "tell(L0,64-63,0;) = !argument", "tell(L64,0-63,0;) = !argument", "count(0) = 1");
        Edge.says(40, "Numbers are in the ranges above and have no leading zeros;");
        Edge.onNew("tell(F00=01;) = !argument", "tell(F00=00;) = !argument", "tell(L00,0-1,1;) = !argument",
                "tell(L0,00-1,1;) = !argument", "tell(L0,0-01,1;) = !argument", "tell(P1,1r00w2h1;) = !argument",
                "tell(P1,1r1w02h1;) = !argument", "tell(P1,1r1w2h01;) = !argument", "tell(P1,1r1w1h1;) = !argument",
                "tell(P1,1r1w13h1;) = !argument", "tell(P1,1r1w2h0;) = !argument", "tell(P1,1r1w2h5;) = !argument",
                "tell(P1,1r10w2h1;) = !argument", "tell(P1,1r1w2h1;) = 1", "tell(F00=0;) = 1");
        Edge.says(40, "each digit of a number that can follow belongs to it.");
        Edge.onNew("tell(L1,1-2,22;) = 1", "vertex(0, 0, 1, true) = 22", "tell(F00=15;) = 1", "parcelAt(0, 0, 0) = 15",
                "tell(P10,11r1w12h1;) = 1", "point(0, 0) = 10", "point(0, 1) = 11", "point(0, 3) = 12",
                "tell(F00=100;) = !argument", "errorPosition() = 6", "tell(L100,1-1,1;) = !argument",
                "errorPosition() = 3", "tell(P1,1r1w120h1;) = !argument", "errorPosition() = 9");
    }

    private static void emptied() {
        Edge.says(40, "The input is empty afterwards, whatever happens.");
        String[] texts = {"F00=1;", "X", "", "L0,0-0,0;", "P1,1r1w2h1;P1,1r1w2h1;", "F00=1;".repeat(10),
                "F".repeat(60)};
        for (String text : texts) {
            MapGeneralizer map = new MapGeneralizer();
            append(map, text);
            Calls.answer(map, "read()");
            Edge.on(map, "append('F') = 1", "append('2') = 2", "append('3') = 3", "append('=') = 4", "append('4') = 5",
                    "append(';') = 6", "read() = 1", "parcelAt(0, 2, 3) = 4", "read() = !argument");
        }
        for (String text : new String[] {"F12=15;", "L10,10-20,20;", "P10,10r3w12h4;"}) {
            for (int length = 0; length < text.length(); length++) {
                Edge.on(Edge.made("tell(" + text + ")"), "tell(" + text.substring(0, length) + ") = !argument",
                        "errorPosition() = " + length);
            }
        }
    }

    private static void nothingOfIt() {
        Edge.says(40, "Does what the entries of the text in the input tell, in their order, or nothing of it.");
        Edge.onNew("tell(F00=1;F00=2;F10=1;F00=3;) = 4", "parcelAt(0, 0, 0) = 3", "undo() = 0", "count(3) = 64");
        String entries = "F00=1;P1,1r1w2h1;L5,5-6,6;";
        Edge.onNew("tell(" + entries + "L6,6-7,7;) = !unsupported", "count(0) = 0", "count(1) = 0", "count(3) = 64",
                "undo() = !element", "tell(" + entries + "P1,1r2w2h1;) = !state", "count(0) = 0", "count(1) = 0",
                "count(3) = 64", "undo() = !element", "tell(" + entries + "F) = !argument", "count(0) = 0",
                "count(1) = 0",
                "count(3) = 64", "undo() = !element", "tell(" + entries + ") = 3", "count(0) = 1", "count(1) = 1",
                "count(3) = 63", "undo() = 0");
        Edge.says(40, "Throws `IllegalArgumentException` if the input is not a text of this kind;");
        Edge.onNew("tell(L0,0-0,0;F) = !argument", "tell(f00=1;) = !argument", "tell( F00=1;) = !argument",
                "tell(F00=1; ) = !argument", "tell(F00=1;) = 1");
    }

    private static void refusedLines() {
        Edge.says(40, "Throws `UnsupportedOperationException` if a line could not be added: successive vertices would"
                + " be equal, it would not be simple, or it would have something in common with another line or with a"
                + " point");
        Edge.onNew("tell(L5,5-5,5;) = !unsupported", "tell(L5,5-6,6-6,6;) = !unsupported", "tell(L5,5-5,6;) = 1");
        Edge.onNew("tell(L0,0-9,0-5,0;) = !unsupported", "tell(L0,0-9,0-5,1;) = 1", "tell(L3,0-3,9;) = !unsupported",
                "tell(L6,0-6,9;) = !unsupported", "tell(L3,1-3,9;) = 1");
        String[] on = {"0,0", "2,1", "4,2", "6,3", "8,4", "8,6", "8,9"};
        for (String at : on) {
            Edge.onNew("tell(P" + at + "r1w2h1;) = 1", "tell(L0,0-8,4-8,9;) = !unsupported", "count(0) = 0",
                    "removePoint(0) = 0", "tell(L0,0-8,4-8,9;) = 1");
        }
        String[] beside = {"1,0", "1,1", "3,1", "9,4", "8,3", "8,10", "10,5", "7,6"};
        for (String at : beside) {
            Edge.onNew("tell(P" + at + "r1w2h1;) = 1", "tell(L0,0-8,4-8,9;) = 1");
        }
        MapGeneralizer last = new MapGeneralizer();
        for (int point = 0; point < 12; point++) {
            Edge.make(last, "addPoint(" + 4 * point + ", 5, 5, 2, 1, 0)");
        }
        Edge.on(last, "tell(L44,0-44,5;) = !unsupported", "tell(L44,0-44,4;) = 1");
    }

    private static void tooMuch() {
        Edge.says(40, "Throws `IllegalStateException` if there would be more than 6 lines, or addPoint would throw an"
                + " exception");
        String five = "L0,0-5,0;L0,2-5,2;L0,4-5,4;L0,6-5,6;L0,8-5,8;";
        Edge.onNew("tell(" + five + ") = 5", "tell(L10,0-11,9;L20,0-20,9;) = !state", "count(0) = 5",
                "tell(L10,0-11,9;) = 1", "tell(L20,0-20,9;) = !state", "count(0) = 6");
        MapGeneralizer map = new MapGeneralizer();
        for (int point = 0; point < 11; point++) {
            Edge.make(map, "addPoint(" + 4 * point + ", 5, 5, 2, 1, 0)");
        }
        Edge.on(map, "tell(P1,1r1w2h1;P2,1r1w2h1;) = !state", "count(1) = 11", "tell(P1,1r1w2h1;) = 1", "count(1) = 12",
                "tell(P2,1r1w2h1;) = !state", "count(1) = 12");
        Edge.onNew("tell(P5,5r1w2h1;) = 1", "tell(P5,5r2w3h2;) = !state", "tell(P5,6r2w3h2;) = 1");
        Edge.onNew("tell(L0,0-8,4;) = 1", "tell(P2,1r1w2h1;) = !state", "tell(P8,4r1w2h1;) = !state",
                "tell(P1,1r1w2h1;) = 1", "tell(P10,5r1w2h1;) = 1");
    }

    private static void firstOneDecides() {
        Edge.says(40, "read makes its entries one after the other, each one on the map as it is then, and the first"
                + " one that cannot be made decides about the exception;");
        Edge.onNew("tell(L0,0-8,4;P2,1r1w2h1;) = !state", "tell(P2,1r1w2h1;L0,0-8,4;) = !unsupported",
                "tell(L0,0-8,4;L8,4-9,9;) = !unsupported", "tell(P2,1r1w2h1;P2,1r1w2h1;) = !state",
                "tell(P2,1r1w2h1;P2,1r1w2h1;L5,5-5,5;) = !state",
                "tell(L5,5-5,5;P2,1r1w2h1;P2,1r1w2h1;) = !unsupported",
                "tell(L5,5-5,5;P2,1r1w2h1;P2,1r1w2h1) = !argument");
        String six = "L0,0-5,0;L0,2-5,2;L0,4-5,4;L0,6-5,6;L0,8-5,8;L10,0-11,9;";
        Edge.on(Edge.made("tell(" + six + ")"), "tell(L20,0-20,9;L20,0-20,0;) = !state",
                "tell(L20,0-20,0;L20,0-20,9;) = !unsupported", "tell(L0,0-5,0;) = !unsupported",
                "tell(L0,1-5,1;) = !state");
    }

    private static void describe() {
        Edge.says(42, "Returns a character of the text of a line, as an entry with its semicolon, or its length.");
        String[] lines = {"L0,0-1,0;", "L63,63-10,9;", NINE_VERTICES + "0-9,1;",
            "L10,20-11,21-12,20-13,21-14,20-15,21-16,20-17,21-18,20-9,63;"};
        for (String line : lines) {
            MapGeneralizer map = Edge.made("tell(" + line + ")");
            Edge.on(map, "text(0, 0) = " + line, "describe(0, 0, -1) = " + line.length(),
                    "describe(0, 0, 0) = " + (int) 'L', "describe(0, 0, " + (line.length() - 1) + ") = " + (int) ';',
                    "describe(0, 0, " + (line.length() - 2) + ") = " + (int) line.charAt(line.length() - 2),
                    "describe(0, 0, " + line.length() + ") = !element", "describe(0, 0, -2) = !element");
        }
        Edge.says(42, "describe tells the vertices of the line on its level.");
        Edge.on(Edge.made("tell(L0,10-4,11-8,10-9,14-12,10;)"), "text(1, 0) = L0,10-8,10-9,14-12,10;",
                "describe(1, 0, 21) = " + (int) ';', "describe(1, 0, 22) = !element",
                "describe(0, 0, 22) = " + (int) '2',
                "text(4, 0) = L0,10-12,10;", "describe(4, 0, 11) = " + (int) ';', "describe(4, 0, 12) = !element",
                "describe(0, 0, 26) = " + (int) ';', "describe(0, 0, 27) = !element");
        Edge.says(42, "Returns the code of the character, or the length.");
        Edge.on(Edge.made("tell(L0,0-1,0;)"), "describe(0, 0, -1) = 9", "describe(0, 0, 1) = 48",
                "describe(0, 0, 2) = 44", "describe(0, 0, 4) = 45", "describe(0, 0, 8) = 59");
        Edge.says(42, "Throws `IllegalArgumentException` if level is out of range");
        Edge.onNew("describe(-1, 0, -1) = !argument", "describe(5, 0, -1) = !argument",
                "describe(5, 0, 99) = !argument", "describe(MIN, MIN, MIN) = !argument");
        Edge.says(42, "Throws `IndexOutOfBoundsException` if there is no such line");
        Edge.onNew("describe(0, 0, -1) = !index", "tell(L0,0-1,0;) = 1", "describe(0, 1, -1) = !index",
                "describe(4, -1, -1) = !index", "describe(0, 1, 99) = !index", "describe(0, 0, -1) = 9");
        Edge.says(42, "Throws `NoSuchElementException` if index is not -1, and there is no such character");
        Edge.on(Edge.made("tell(L0,0-1,0;)"), "describe(0, 0, -2) = !element", "describe(0, 0, 9) = !element",
                "describe(0, 0, MIN) = !element", "describe(0, 0, MAX) = !element", "describe(4, 0, 8) = 59");
    }
}
