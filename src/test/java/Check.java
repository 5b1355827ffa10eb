import java.util.concurrent.Callable;

/** What the tests of the promises share: it counts and prints every answer that is not the one due. */
final class Check {
    private static int wrong = 0;
    private static int right = 0;

    private Check() {
    }

    static void due(String what, Object want, Object got) {
        if (want.equals(got)) {
            right++;
        } else {
            wrong++;
            System.out.println(what + " answered " + got + ", due is " + want);
        }
    }

    static void refused(String what, Class<? extends RuntimeException> want, Callable<?> call) {
        String got;
        try {
            got = "the answer " + call.call();
        } catch (Exception e) {
            got = e.getClass().getName();
        }
        due(what, want.getName(), got);
    }

    /** Appends a text and reads it. */
    static int tell(MapGeneralizer map, String text) {
        for (char character : text.toCharArray()) {
            map.append(character);
        }
        return map.read();
    }

    static MapGeneralizer mapOf(String... texts) {
        MapGeneralizer map = new MapGeneralizer();
        for (String text : texts) {
            tell(map, text);
        }
        return map;
    }

    /** The text of a line on a level, by describe. */
    static String textOf(MapGeneralizer map, int level, int line) {
        StringBuilder text = new StringBuilder();
        int length = map.describe(level, line, -1);
        for (int i = 0; i < length; i++) {
            text.append((char) map.describe(level, line, i));
        }
        return text.toString();
    }

    /** The parcels of all fields of a level, row by row, with a point for none. */
    static String fieldsOf(MapGeneralizer map, int level) {
        StringBuilder text = new StringBuilder();
        for (int row = 0; row < 8; row++) {
            for (int column = 0; column < 8; column++) {
                int parcel = map.parcelAt(level, column, row);
                text.append(parcel < 0 ? "." : Integer.toHexString(parcel));
            }
            text.append('/');
        }
        return text.toString();
    }

    static void finish() {
        System.out.println(right + " answers are as due, " + wrong + " are not");
        if (wrong != 0 || right == 0) {
            System.exit(1);
        }
    }
}
