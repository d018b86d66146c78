/** The promises 1 to 21, each at its edges: the least and the greatest, the empty and the full, the first and the last. */
public final class EdgesTest extends LandTest {
    private static final int UNKNOWN = LandDeeds.UNKNOWN, OUTSIDE = LandDeeds.OUTSIDE, STATE = LandDeeds.STATE,
        FULL = LandDeeds.FULL, NO = LandDeeds.NO, NONE = LandDeeds.NONE, FAULT = LandDeeds.FAULT, AWRY = LandDeeds.AWRY;
    // The least plot, and one with as many corners as there may be.
    private static final String LEAST = "n1;e1;s1w1", EIGHT = "e2;n2;e2;s2;e2;n4;w6;s4";

    public static void main(String[] args) {
        newObject();
        objectsShareNothing();
        sayTellsHowMany();
        wipeTellsHowMany();
        faultNone();
        deedEmptiesTheText();
        deedKeepsTheTextWhenRefused();
        deedAtTheEdgeOfLoose();
        missAddsAThousand();
        looseTellsWhatItWas();
        looseLeavesPlotsAlone();
        dropDownToNone();
        yearTellsHowManyAreOlder();
        aboutTheLeastPlot();
        aboutTheGreatestPlot();
        aboutTheWayRound();
        aboutWhatIsNotItsRight();
        cornersOfEachNumber();
        liesAtTheRims();
        signFirstAndLast();
        signOfNumbersAndLegs();
        signBeyond48();
        westOfTheRims();
        westOfUprightSides();
        lineOfEachWish();
        lineOfFractions();
        commonOfTwoPlots();
        rightOfNobody();
        gapOfNone();
        gapOfOnePost();
        gapsFirstPost();
        gapsAsGreat();
        countOfHeldTwice();
        countOfImages();
        imageOfNothing();
        imageInPlaceOfAnother();
        imageStays();
        imageOfAFullLand();
        end("the edges hold");
    }

    // ---- Promise 1: "No PLOT; THE TEXT is empty; LOOSE is 4; no IMAGE is kept."

    private static void newObject() {
        LandDeeds land = new LandDeeds();
        int[] counts = {0, 0, 4, 0, 0};
        for (int what = 0; what < 5; what++) {
            due("1 count " + what, land.count(what), counts[what]);
        }
        for (int plot = 0; plot < 6; plot++) {
            due("1 no plot", land.drop(plot), UNKNOWN);
        }
        due("1 empty text", land.wipe(), 0);
        due("1 fault of the empty text", land.fault(), 0);
        due("1 no deed of it", land.deed(0, 0, 1), FAULT);
        due("1 no miss of it", land.miss(0), FAULT);
        due("1 no image", land.restore(0), STATE);
        due("1 no image", land.restore(1), STATE);
        due("1 loose", land.loose(4), 4);
        dueGaps(land, 1024, 1, 1024, 0, 0);
    }

    private static void objectsShareNothing() {
        LandDeeds one = landWith(UNIT, 5, 5, 5);
        one.loose(9);
        one.image(0);
        one.say('n');
        newObject();
        LandDeeds other = new LandDeeds();
        due("1 nothing kept in the other", other.restore(0), STATE);
        due("1 right in the other", other.right(5, 5), NONE);
        due("1 right in the one", one.right(5, 5), 0);
        due("1 loose of the one", one.count(2), 9);
        due("1 text of the one", one.count(1), 1);
    }

    // ---- Promise 2: "A sign more of THE TEXT: how many it has. OUTSIDE: it is not 33 to 126; FULL."

    private static void sayTellsHowMany() {
        for (int sign = 33; sign <= 126; sign++) {
            LandDeeds land = new LandDeeds();
            for (int many = 1; many <= 48; many++) {
                due("2 sign " + sign, land.say(sign), many);
            }
            due("2 full of " + sign, land.say(sign), FULL);
        }
        due("2 just below", new LandDeeds().say(32), OUTSIDE);
        due("2 just above", new LandDeeds().say(127), OUTSIDE);
        LandDeeds land = new LandDeeds();
        land.say('n');
        land.say(32);
        due("2 what is refused is no sign", land.say('1'), 2);
        due("2 so the text goes on", land.fault(), 2);
    }

    // ---- Promise 3: "THE TEXT is empty: how many signs it had."

    private static void wipeTellsHowMany() {
        LandDeeds land = new LandDeeds();
        for (int signs = 0; signs <= 48; signs += 8) {
            for (int i = 0; i < signs; i++) {
                land.say('n');
            }
            due("3 wiped", land.wipe(), signs);
            due("3 empty", land.count(1), 0);
            due("3 the fault is gone", land.fault(), 0);
        }
        LandDeeds rest = landWith(UNIT, 5, 5, 5);
        rest.loose(9);
        rest.image(1);
        rest.wipe();
        due("3 plots stay", rest.count(0), 1);
        due("3 loose stays", rest.count(2), 9);
        due("3 images stay", rest.count(4), 2);
    }

    // ---- Promise 4: "The FAULT of THE TEXT; NONE: it has none."

    private static void faultNone() {
        due("4 the shortest text", faultOf("n1;n1;n1"), NONE);
        due("4 a sign less", faultOf("n1;n1;n"), 7);
        due("4 eight calls", faultOf("n1;s2;e3;w4;n5e6;n7w8;s9e10;s11w31"), NONE);
        // A text may be one, though no plot would ever stand.
        due("4 no matter where it leads", faultOf("n31;n31;n31;n31;n31;n31;n31;n31"), NONE);
        due("4 asked twice", telling("n1;n1;n1").fault(), NONE);
    }

    // ---- Promise 5

    private static void deedEmptiesTheText() {
        LandDeeds land = new LandDeeds();
        for (int i = 0; i < 6; i++) {
            due("5 its number", deedOf(land, UNIT, i, i, 1), i);
            due("5 the text is empty then", land.count(1), 0);
            due("5 no second deed of it", land.deed(i, i, 1), FAULT);
            due("5 one more", land.count(0), i + 1);
        }
    }

    private static void dueKept(String what, LandDeeds land, int answer, int refusal, int signs) {
        due("5 " + what, answer, refusal);
        due("5 the text stays behind " + what, land.count(1), signs);
    }

    private static void deedKeepsTheTextWhenRefused() {
        LandDeeds land = telling(UNIT);
        dueKept("OUTSIDE", land, land.deed(32, 0, 1), OUTSIDE, 11);
        dueKept("AWRY", land, land.deed(31, 0, 1), AWRY, 11);
        land.say(';');
        dueKept("FAULT", land, land.deed(0, 0, 1), FAULT, 12);
        tell(land, "n5;e5;s5");
        dueKept("NO", land, land.deed(0, 0, 1), NO, 8);
        land.loose(5);
        due("5 the same text, with a greater LOOSE", land.deed(9, 9, 1), 0);
        tell(land, UNIT);
        due("5 the same text from a post where it stands", land.deed(30, 0, 1), 1);
    }

    private static void deedAtTheEdgeOfLoose() {
        // A long square whose last call is short of the start by the MISS.
        for (int loose = 0; loose <= 20; loose++) {
            for (int off = 0; off <= 21; off++) {
                LandDeeds land = telling("n30;e30;s30;w" + (30 - off));
                land.loose(loose);
                due("5 NO of " + off + " with " + loose, land.deed(0, 0, 1) == NO ? 1 : 0, off > loose ? 1 : 0);
            }
        }
        // Both numbers are added without their signs: 3 to the west and 2 to the north are 5.
        LandDeeds both = telling("n9;e7;s7;w10");
        due("5 both added", both.deed(9, 9, 1), NO);
        both.loose(5);
        due("5 both added", both.deed(9, 9, 1), 0);
        LandDeeds strict = telling(UNIT);
        strict.loose(0);
        due("5 LOOSE 0 and no MISS", strict.deed(0, 0, 1), 0);
    }

    // ---- Promise 6: "in x (what = 0), in y (1), 1000 added to both; FAR of all (2)"

    private static void missAddsAThousand() {
        LandDeeds land = telling(UNIT);
        due("6 no miss in x", land.miss(0), 1000);
        due("6 no miss in y", land.miss(1), 1000);
        due("6 far", land.miss(2), 4);
        LandDeeds west = telling("w1;n1;s1");
        due("6 just below", west.miss(0), 999);
        due("6 y alone", west.miss(1), 1000);
        LandDeeds north = telling("n1;e1;w1");
        due("6 just above", north.miss(1), 1001);
        due("6 x alone", north.miss(0), 1000);
        // The MISS of a text is told, even if it is more than LOOSE.
        due("6 more than loose", telling("n31;n31;n31;n31;n31;n31;n31;n31").miss(1), 1248);
    }

    // ---- Promise 7: "LOOSE is n: which it was."

    private static void looseTellsWhatItWas() {
        LandDeeds land = new LandDeeds();
        int[] then = {4, 0, 0, 20, 20, 1, 19};
        int before = 4;
        for (int n : then) {
            due("7 which it was", land.loose(n), before);
            due("7 is n", land.count(2), n);
            before = n;
        }
        due("7 below", land.loose(-1), OUTSIDE);
        due("7 above", land.loose(21), OUTSIDE);
        due("7 as it was", land.count(2), 19);
    }

    private static void looseLeavesPlotsAlone() {
        LandDeeds land = landWith("e8;n6;w6;s8", 10, 10, 7);
        land.loose(0);
        dueCorners(land, 0, 10, 10, 18, 10, 17, 17, 11, 17);
        due("7 but the next deed is refused", deedOf(land, "e8;n6;w6;s8", 10, 10, 7), NO);
    }

    // ---- Promise 8: "A PLOT goes: how many there are."

    private static void dropDownToNone() {
        LandDeeds land = new LandDeeds();
        for (int i = 0; i < 6; i++) {
            deedOf(land, UNIT, 2 * i, 0, 1 + i);
        }
        due("8 beyond the last", land.drop(6), UNKNOWN);
        for (int left = 5; left >= 0; left--) {
            due("8 how many there are", land.drop(left % 2 == 0 ? 0 : left), left);
        }
        due("8 none is left", land.drop(0), UNKNOWN);
        due("8 nobody has a right", land.gap(0), 1024);
        due("8 numbers begin with 0 again", deedOf(land, UNIT, 0, 0, 1), 0);
    }

    // ---- Promise 9: "A PLOT has another YEAR (or the same): how many PLOTS are OLDER then."

    private static void yearTellsHowManyAreOlder() {
        LandDeeds land = new LandDeeds();
        for (int i = 0; i < 6; i++) {
            deedOf(land, UNIT, 2 * i, 0, 100);
        }
        for (int i = 0; i < 6; i++) {
            due("9 the same year", land.year(i, 100), i);
        }
        due("9 the oldest of all", land.year(5, 99), 0);
        due("9 the newest of all", land.year(0, 101), 5);
        due("9 the newest of all, at the last year", land.year(0, 999), 5);
        due("9 the oldest of all, at the first year", land.year(5, 1), 0);
        due("9 not older than itself", landWith(UNIT, 0, 0, 1).year(0, 999), 0);
        due("9 a lesser number with the oldest's year", land.year(3, 1), 0);
        due("9 is behind it", land.year(5, 1), 1);
    }

    // ---- Promise 10

    private static void dueAbout(String what, LandDeeds land, int plot, int... answers) {
        for (int i = 0; i < answers.length; i++) {
            due("10 " + what + " " + i, land.about(plot, i), answers[i]);
        }
    }

    private static void aboutTheLeastPlot() {
        LandDeeds land = new LandDeeds();
        due("10 off the land", deedOf(land, LEAST, 31, 30, 1), AWRY);
        due("10 at the rim", land.deed(30, 30, 1), 0);
        dueAbout("the least plot", land, 0, 1, 3, 1, 0, 0, 3, 0);
        // Long and thin: the area is as small, and no POST but the CORNERS is on it.
        dueAbout("a sliver", landWith("n30e31;s1w1;s29w30", 0, 0, 999), 0, 999, 3, 1, 0, 0, 3, 0);
    }

    private static void aboutTheGreatestPlot() {
        dueAbout("all land", landWith(WHOLE_LAND, 0, 0, 500), 0, 500, 4, 1922, 0, 900, 124, 0);
        dueAbout("all land, the other way", landWith("e31;n31;w31;s31", 0, 0, 500), 0, 500, 4, 1922, 1, 900, 124, 0);
        // 6 by 4 less 2 by 2.
        dueAbout("eight corners", landWith(EIGHT, 10, 10, 500), 0, 500, 8, 40, 1, 9, 24, 0);
    }

    private static void aboutTheWayRound() {
        due("10 to the left", landWith("e1;n1;s1w1", 5, 5, 1).about(0, 3), 1);
        due("10 to the right", landWith("n1;e1;s1w1", 5, 5, 1).about(0, 3), 0);
        // At most CORNERS of these two the way bends as for the other one.
        due("10 to the left, with a notch", landWith("e8;n4;s3w4;n3w4;s4", 10, 10, 1).about(0, 3), 1);
        due("10 to the right, with a notch", landWith("n4;s3e4;n3e4;s4;w8", 10, 10, 1).about(0, 3), 0);
    }

    private static void aboutWhatIsNotItsRight() {
        LandDeeds land = landWith("e4;n4;w4;s4", 10, 10, 100);
        due("10 alone it loses none", land.about(0, 6), 0);
        deedOf(land, "e4;n4;w4;s4", 14, 14, 99);
        due("10 one post to the older", land.about(0, 6), 1);
        due("10 the older none", land.about(1, 6), 0);
        deedOf(land, WHOLE_LAND, 0, 0, 98);
        due("10 all to the oldest", land.about(0, 6), 25);
        due("10 all to the oldest", land.about(1, 6), 25);
        due("10 the oldest none", land.about(2, 6), 0);
        land.year(2, 101);
        due("10 the newest: what the two others hold", land.about(2, 6), 49);
        land.year(2, 100);
        due("10 of one year, the lesser number has it", land.about(0, 6), 1);
        due("10 of one year, the greater number has not", land.about(2, 6), 49);
    }

    // ---- Promise 11: "NONE: there is none such (k below 0, too)."

    private static void cornersOfEachNumber() {
        String[] texts = {LEAST, UNIT, "e2;e2;n4;w4;s4", "e2;e2;n2;n2;w4;s4", "e2;e2;n2;n2;w2;w2;s4", EIGHT};
        for (int i = 0; i < texts.length; i++) {
            LandDeeds land = landWith(texts[i], 10, 10, 1);
            int corners = i + 3;
            due("11 how many", land.about(0, 1), corners);
            for (int what = 0; what < 2; what++) {
                due("11 below 0", land.corner(0, -1, what), NONE);
                due("11 the first", land.corner(0, 0, what), 10);
                due("11 the last is one", land.corner(0, corners - 1, what) >= 0 ? 1 : 0, 1);
                due("11 behind the last", land.corner(0, corners, what), NONE);
                due("11 far below", land.corner(0, LOWEST, what), NONE);
                due("11 far behind", land.corner(0, HIGHEST, what), NONE);
            }
        }
        dueCorners(landWith(WHOLE_LAND, 0, 0, 1), 0, 0, 0, 0, 31, 31, 31, 31, 0);
        dueCorners(landWith(EIGHT, 10, 10, 1), 0, 10, 10, 12, 10, 12, 12, 14, 12, 14, 10, 16, 10, 16, 14, 10, 14);
    }

    // ---- Promise 12: "0 the PLOT does not HOLD it, 1 it is on a SIDE, 2 INSIDE"

    private static void liesAtTheRims() {
        LandDeeds all = landWith(WHOLE_LAND, 0, 0, 1);
        for (int i = 0; i < 32; i++) {
            due("12 west rim", all.lies(0, 0, i), 1);
            due("12 east rim", all.lies(0, 31, i), 1);
            due("12 south rim", all.lies(0, i, 0), 1);
            due("12 north rim", all.lies(0, i, 31), 1);
            due("12 across", all.lies(0, i, i), i == 0 || i == 31 ? 1 : 2);
        }
        LandDeeds eight = landWith(EIGHT, 10, 10, 1);
        due("12 in the notch", eight.lies(0, 13, 11), 0);
        due("12 at the notch's mouth", eight.lies(0, 13, 10), 0);
        due("12 at its end", eight.lies(0, 13, 12), 1);
        due("12 behind it", eight.lies(0, 13, 13), 2);
        due("12 beside a plot of another", eight.lies(0, 9, 10), 0);
    }

    // ---- Promise 13: "how many signs (k = -1), the k-th, from 0 on; NONE: there is none such (k below -1, too)"

    private static void signFirstAndLast() {
        LandDeeds land = landWith(LEAST, 5, 5, 1);
        due("13 how many", land.sign(0, -1), 10);
        due("13 below -1", land.sign(0, -2), NONE);
        due("13 the first", land.sign(0, 0), 'n');
        due("13 the last", land.sign(0, 9), '1');
        due("13 behind the last", land.sign(0, 10), NONE);
        due("13 far below", land.sign(0, LOWEST), NONE);
        due("13 far behind", land.sign(0, HIGHEST), NONE);
    }

    private static void signOfNumbersAndLegs() {
        // What misses nothing is written as it was told.
        String[] texts = {LEAST, UNIT, EIGHT, WHOLE_LAND, "n9e10;s9e11;w21", "s1e31;n31w30;s30w1", "n10;e19;s10w19"};
        int[] ys = {0, 0, 0, 0, 0, 1, 0};
        for (int i = 0; i < texts.length; i++) {
            dueText("13 as told", written(landWith(texts[i], 0, ys[i], 1), 0), texts[i]);
        }
        // The text is gone, the plot's deed is not; nor does the next text change it.
        LandDeeds land = landWith(LEAST, 0, 0, 1);
        tell(land, "s2;w2");
        dueText("13 of the plot, not of THE TEXT", written(land, 0), LEAST);
    }

    private static void signBeyond48() {
        // Mended calls may need more signs than THE TEXT has room for.
        LandDeeds land = new LandDeeds();
        land.loose(20);
        due("13 deed", deedOf(land, "s3w12;n9w11;s16e9;s8w16;n1e12;s14e9;n9w3;n9e9", 31, 22, 1), 0);
        dueText("13 mended", written(land, 0), "s2w12;n11w11;s14e10;s6w16;n2e12;s12e10;n10w3;n11e10");
        due("13 how many", land.sign(0, -1), 51);
        due("13 the last", land.sign(0, 50), '0');
        due("13 behind the last", land.sign(0, 51), NONE);
    }

    // ---- Promise 14: "Twice the area of what of a PLOT lies west of a line to the north through x (0 to 31)"

    private static void westOfTheRims() {
        LandDeeds all = landWith(WHOLE_LAND, 0, 0, 1);
        for (int x = 0; x <= 31; x++) {
            dueWest(all, 0, x, 62 * x, 1);
        }
        LandDeeds sliver = landWith("n30e31;s1w1;s29w30", 0, 0, 1);
        dueWest(sliver, 0, 0, 0, 1);
        dueWest(sliver, 0, 31, 1, 1);
        // Between the lines of 30 by 31 and of 29 by 30: 1 by 930 times x times x.
        dueWest(sliver, 0, 1, 1, 930);
        dueWest(sliver, 0, 29, 841, 930);
        dueWest(sliver, 0, 30, 30, 31);
    }

    private static void westOfUprightSides() {
        // 2 by 4, then the notch's 2 by 2, then 2 by 4: the line lies on upright sides at 10, 12, 14 and 16.
        int[] twice = {0, 8, 16, 20, 24, 32, 40, 40};
        LandDeeds land = landWith(EIGHT, 10, 10, 1);
        for (int i = 0; i < twice.length; i++) {
            dueWest(land, 0, 10 + i, twice[i], 1);
        }
        dueWest(land, 0, 9, 0, 1);
        dueWest(land, 0, 31, 40, 1);
    }

    // ---- Promise 15: "The least x .. west of which twice the area of a PLOT is no less than wish (1 to 2000)"

    private static void lineOfEachWish() {
        LandDeeds all = null;
        for (int wish = 1; wish <= 2000; wish++) {
            all = wish % 400 == 1 ? landWith(WHOLE_LAND, 0, 0, 1) : all;
            due("15 wish of " + wish, all.line(0, wish), wish <= 1922 ? (wish + 61) / 62 : NONE);
        }
        LandDeeds east = landWith("e1;n31;w1;s31", 30, 0, 1);
        due("15 at the east rim", east.line(0, 1), 31);
        due("15 all", east.line(0, 62), 31);
        due("15 more than all", east.line(0, 63), NONE);
        LandDeeds west = landWith("e1;n31;w1;s31", 0, 0, 1);
        due("15 at the west rim", west.line(0, 1), 1);
    }

    private static void lineOfFractions() {
        // x times x by 3 is west: the wish is met at the first x whose square is no less than three times it.
        LandDeeds land = landWith("n10e30;s10;w30", 0, 0, 1);
        for (int wish = 1; wish <= 310; wish++) {
            int x = 0;
            while (x * x < 3 * wish) {
                x++;
            }
            due("15 wish of " + wish, land.line(0, wish), x <= 30 ? x : NONE);
        }
        // 930 by 930 is met at 31 alone: 900 by 930 is less than 1.
        due("15 of a sliver", landWith("n30e31;s1w1;s29w30", 0, 0, 1).line(0, 1), 31);
        due("15 of a sliver, too much", landWith("n30e31;s1w1;s29w30", 0, 0, 1).line(0, 2), NONE);
    }

    // ---- Promise 16

    private static void commonOfTwoPlots() {
        LandDeeds land = landWith("e4;n4;w4;s4", 10, 10, 1);
        deedOf(land, "e4;n4;w4;s4", 14, 14, 1);
        deedOf(land, "e2;n2;w2;s2", 11, 11, 1);
        deedOf(land, "e4;n4;w4;s4", 10, 10, 1);
        int[][] due = {
            // one, other, INSIDE both, on SIDES of both, HELD by both
            {0, 1, 0, 1, 1}, {0, 2, 1, 0, 9}, {0, 3, 9, 16, 25}, {0, 0, 9, 16, 25}, {1, 2, 0, 0, 0}};
        for (int[] pair : due) {
            for (int what = 0; what < 3; what++) {
                due("16 of " + pair[0] + " and " + pair[1], land.common(pair[0], pair[1], what), pair[2 + what]);
                due("16 of " + pair[1] + " and " + pair[0], land.common(pair[1], pair[0], what), pair[2 + what]);
            }
        }
    }

    // ---- Promise 17: "NONE: nobody's."

    private static void rightOfNobody() {
        LandDeeds land = new LandDeeds();
        due("17 no plot at all", land.right(0, 0), NONE);
        deedOf(land, UNIT, 30, 30, 1);
        int[][] held = {{30, 30}, {31, 30}, {30, 31}, {31, 31}};
        for (int[] post : held) {
            due("17 its corners", land.right(post[0], post[1]), 0);
        }
        int[][] free = {{29, 30}, {29, 31}, {30, 29}, {31, 29}, {0, 30}, {0, 31}, {30, 0}, {31, 0}};
        for (int[] post : free) {
            due("17 beside it", land.right(post[0], post[1]), NONE);
        }
        land.drop(0);
        due("17 nobody's again", land.right(30, 30), NONE);
    }

    // ---- Promise 18

    private static void gapOfNone() {
        dueGaps(landWith(WHOLE_LAND, 0, 0, 1), 0, 0, 0, NONE, NONE);
        // Two plots that hold all land together.
        LandDeeds two = landWith("e15;n31;w15;s31", 0, 0, 1);
        dueGaps(two, 512, 1, 512, 16, 0);
        deedOf(two, "e15;n31;w15;s31", 16, 0, 1);
        dueGaps(two, 0, 0, 0, NONE, NONE);
        two.drop(1);
        dueGaps(two, 512, 1, 512, 16, 0);
    }

    private static void gapOfOnePost() {
        // All land but its last POST.
        dueGaps(landWith("e31;n30;n1w1;w30;s31", 0, 0, 1), 1, 1, 1, 31, 31);
        // A cup and its lid: the one POST in them is no part of the great gap.
        LandDeeds cup = landWith("e4;n4;w1;s3;w2;n3;w1;s4", 10, 10, 1);
        dueGaps(cup, 1024 - 22, 1, 1024 - 22, 0, 0);
        deedOf(cup, "e4;n1;w4;s1", 10, 13, 1);
        dueGaps(cup, 1000, 2, 999, 0, 0);
    }

    private static void gapsFirstPost() {
        // What a corner of the land leaves: by rising y first 6, 0; by rising x it would be 0, 6.
        dueGaps(landWith("e5;n5w5;s5", 0, 0, 1), 1003, 1, 1003, 6, 0);
        // A wall from south to north: the greater gap is the second one.
        dueGaps(landWith("e1;n31;w1;s31", 5, 0, 1), 960, 2, 800, 7, 0);
        // A wall from west to east: the lesser gap is the second one.
        dueGaps(landWith("e31;n1;w31;s1", 0, 20, 1), 960, 2, 640, 0, 0);
    }

    private static void gapsAsGreat() {
        // Two halves of 480 POSTS each, side by side and one above the other: the first POST that comes first.
        dueGaps(landWith("e1;n31;w1;s31", 15, 0, 1), 960, 2, 480, 0, 0);
        dueGaps(landWith("e31;n1;w31;s1", 0, 15, 1), 960, 2, 480, 0, 0);
        // The last column, of which less and less is left: 32 POSTS, 4 of them, two of these that are apart.
        LandDeeds column = landWith("e30;n31;w30;s31", 0, 0, 1);
        dueGaps(column, 32, 1, 32, 31, 0);
        deedOf(column, "e1;n27;w1;s27", 30, 4, 1);
        dueGaps(column, 4, 1, 4, 31, 0);
        deedOf(column, UNIT, 30, 1, 1);
        dueGaps(column, 2, 2, 1, 31, 0);
        // Two of one POST, at 31, 0 and 0, 31: of the lesser y, though of the greater x.
        LandDeeds corners = landWith("e30;n1e1;n30;w30;s1w1;s30", 0, 0, 1);
        dueGaps(corners, 2, 2, 1, 31, 0);
    }

    // ---- Promise 19

    private static void countOfHeldTwice() {
        LandDeeds land = landWith("e4;n4;w4;s4", 10, 10, 1);
        due("19 one plot", land.count(3), 0);
        deedOf(land, "e4;n4;w4;s4", 20, 20, 1);
        due("19 two that are apart", land.count(3), 0);
        deedOf(land, "e4;n4;w4;s4", 14, 14, 1);
        due("19 one post of two", land.count(3), 1);
        for (int i = 0; i < 3; i++) {
            deedOf(land, "e4;n4;w4;s4", 10, 10, 1);
            due("19 each post is counted once", land.count(3), 25);
        }
        LandDeeds all = landWith(WHOLE_LAND, 0, 0, 1);
        deedOf(all, WHOLE_LAND, 0, 0, 1);
        due("19 all posts", all.count(3), 1024);
        due("10 all posts are lost", all.about(1, 6), 1024);
    }

    private static void countOfImages() {
        int[][] keep = {{0, 0, 1}, {1, 1, 2}, {0, 1, 3}, {1, 0, 3}};
        for (int[] row : keep) {
            LandDeeds land = new LandDeeds();
            due("19 none", land.count(4), 0);
            land.image(row[0]);
            land.image(row[1]);
            due("19 those that are kept", land.count(4), row[2]);
            land.restore(row[0]);
            due("19 they stay", land.count(4), row[2]);
        }
    }

    // ---- Promises 20 and 21

    private static void imageOfNothing() {
        LandDeeds land = new LandDeeds();
        due("20 of no plot", land.image(1), 1);
        for (int i = 0; i < 6; i++) {
            deedOf(land, UNIT, i, 0, 1);
        }
        land.loose(20);
        due("21 nothing in the first", land.restore(0), STATE);
        due("21 nothing changed", land.count(0), 6);
        due("21 to no plot", land.restore(1), 1);
        due("21 no plot", land.count(0), 0);
        due("21 loose", land.count(2), 4);
        due("21 nobody's", land.right(0, 0), NONE);
        due("21 numbers from 0 on", deedOf(land, UNIT, 9, 9, 1), 0);
    }

    private static void imageInPlaceOfAnother() {
        LandDeeds land = landWith(UNIT, 5, 5, 5);
        land.image(0);
        land.image(1);
        deedOf(land, UNIT, 8, 8, 8);
        land.loose(11);
        due("20 in place of the first", land.image(0), 1);
        land.restore(1);
        due("21 the second is as it was", land.count(0), 1);
        due("21 its loose", land.count(2), 4);
        land.restore(0);
        due("21 the first is the new one", land.count(0), 2);
        due("21 its loose", land.count(2), 11);
        due("21 its second plot", land.corner(1, 0, 0), 8);
    }

    private static void imageStays() {
        LandDeeds land = landWith(UNIT, 5, 5, 5);
        deedOf(land, UNIT, 8, 8, 8);
        land.image(0);
        for (int i = 0; i < 3; i++) {
            land.year(0, 999);
            land.loose(i);
            land.drop(1);
            deedOf(land, LEAST, 20, 20, 1);
            land.drop(0);
            due("21 restored", land.restore(0), 1);
            due("21 plots", land.count(0), 2);
            due("21 loose", land.count(2), 4);
            due("21 years", land.about(0, 0) * 1000 + land.about(1, 0), 5008);
            due("21 corners", land.corner(1, 0, 0), 8);
            due("21 rights", land.right(20, 20), NONE);
            dueText("21 deeds", written(land, 1), UNIT);
        }
    }

    private static void imageOfAFullLand() {
        LandDeeds land = new LandDeeds();
        for (int i = 0; i < 6; i++) {
            deedOf(land, UNIT, 4 * i, i, 6 - i);
        }
        land.image(1);
        for (int i = 0; i < 6; i++) {
            land.drop(0);
        }
        tell(land, LEAST);
        due("21 full again", land.restore(1), 1);
        due("21 the text stays", land.count(1), 10);
        due("21 no room", land.deed(0, 20, 1), FULL);
        for (int i = 0; i < 6; i++) {
            due("21 its right", land.right(4 * i, i), i);
            due("21 its year", land.about(i, 0), 6 - i);
        }
        land.drop(5);
        due("21 room", land.deed(0, 20, 1), 5);
    }
}
