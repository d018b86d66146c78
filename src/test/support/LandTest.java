/** What the tests of the project share: answers that are due, and short ways to tell deeds. */
class LandTest {
    static final int LOWEST = Integer.MIN_VALUE, HIGHEST = Integer.MAX_VALUE;
    static final String WHOLE_LAND = "n31;e31;s31;w31", UNIT = "e1;n1;w1;s1";

    private static int wrong = 0;

    static void due(String what, long got, long want) {
        if (got != want) {
            wrong++;
            System.out.println(what + ": answered " + got + ", due is " + want);
        }
    }

    static void dueText(String what, String got, String want) {
        due(what + " '" + got + "' for '" + want + "'", got.equals(want) ? 1 : 0, 1);
    }

    static void end(String allIsWell) {
        System.out.println(wrong == 0 ? allIsWell : wrong + " answers are wrong");
        if (wrong != 0) {
            System.exit(1);
        }
    }

    static void tell(LandDeeds land, String text) {
        land.wipe();
        for (int i = 0; i < text.length(); i++) {
            due("say of " + text, land.say(text.charAt(i)), i + 1);
        }
    }

    static LandDeeds telling(String text) {
        LandDeeds land = new LandDeeds();
        tell(land, text);
        return land;
    }

    static int faultOf(String text) {
        return telling(text).fault();
    }

    static int deedOf(LandDeeds land, String text, int x, int y, int year) {
        tell(land, text);
        return land.deed(x, y, year);
    }

    static LandDeeds landWith(String text, int x, int y, int year) {
        LandDeeds land = new LandDeeds();
        due("deed of " + text, deedOf(land, text, x, y, year), 0);
        return land;
    }

    static String written(LandDeeds land, int plot) {
        StringBuilder text = new StringBuilder();
        int signs = land.sign(plot, -1);
        for (int k = 0; k < signs; k++) {
            text.append((char) land.sign(plot, k));
        }
        return text.toString();
    }

    static void dueCorners(LandDeeds land, int plot, int... places) {
        due("corners", land.about(plot, 1), places.length / 2);
        for (int k = 0; k < places.length / 2; k++) {
            due("corner x " + k, land.corner(plot, k, 0), places[2 * k]);
            due("corner y " + k, land.corner(plot, k, 1), places[2 * k + 1]);
        }
    }

    static void dueWest(LandDeeds land, int plot, int x, long upper, long lower) {
        due("west upper at " + x, land.west(plot, x, 0), upper);
        due("west lower at " + x, land.west(plot, x, 1), lower);
    }

    static void dueGaps(LandDeeds land, int... answers) {
        for (int what = 0; what < 5; what++) {
            due("18 gap " + what, land.gap(what), answers[what]);
        }
    }
}
