/** The document's part 'Terms', sentence by sentence, where a sentence names an edge. The names quote the document. */
public final class TermsTest extends LandTest {
    private static final String ALL_DIGITS = "0123456789", FIRST_DIGITS = "123456789";
    private static final String SEVEN_CALLS = "n1;n1;n1;n1;n1;n1;n1;";

    public static void main(String[] args) {
        fractionsInLowestTerms();
        lowestTermsOfSmallTriangles();
        lowerNumberAboveZero();
        postsAreFrom0To31();
        waysOfTheLetters();
        textHasUpTo48Signs();
        callsAre3To8();
        kindsOfCalls();
        numbersAre1To31();
        signsThatMayFollow();
        faultIsTheFirstOne();
        faultOfABeginning();
        plotsAreNumberedAsTheyCome();
        yearsAre1To999();
        looseIs0To20();
        missOfBothSigns();
        missAndFarOfTheseCallsAlone();
        missAndFarAtTheirGreatest();
        shareOfTheMissIsCut();
        cornersOfAnExactShare();
        lastSideGoesToTheFirstCorner();
        cornersMustBePosts();
        noSideIsAMerePoint();
        sidesThatHaveAPointTogether();
        sidesThatFollowOneAnother();
        sidesThatComeNear();
        insideAndOnSides();
        olderIsOfTheLesserYear();
        rightOfTheOldestThatHolds();
        gapsGoByFourSteps();
        end("the terms hold");
    }

    // ---- "Fractions are told in lowest terms, the lower number above 0."

    private static long divisor(long a, long b) {
        return b == 0 ? a : divisor(b, a % b);
    }

    private static void dueLowest(String text, int x, int y) {
        for (int line = 0; line < 32; line++) {
            LandDeeds land = landWith(text, x, y, 1);
            long upper = land.west(0, line, 0), lower = land.west(0, line, 1);
            due("lower number above 0, " + text + " at " + line, lower > 0 ? 1 : 0, 1);
            due("upper number not below 0, " + text + " at " + line, upper >= 0 ? 1 : 0, 1);
            due("lowest terms, " + text + " at " + line, divisor(upper, lower), 1);
        }
    }

    private static void fractionsInLowestTerms() {
        // The side rises 2 by 6: 2x by 6 times x, so 2 by 6 at 1 is told as 1 by 3.
        LandDeeds land = landWith("n2e6;s2;w6", 0, 0, 1);
        dueWest(land, 0, 1, 1, 3);
        dueWest(land, 0, 2, 4, 3);
        dueWest(land, 0, 3, 3, 1);
        dueWest(land, 0, 4, 16, 3);
        dueWest(land, 0, 5, 25, 3);
        dueWest(land, 0, 6, 12, 1);
        // Fractions of two sides come together: 2 by 5 less 2 by 7; and with a third one, 29 by 2 less 72 by 7.
        LandDeeds two = landWith("n2e7;n1;s1w2;s2w5", 3, 3, 1);
        dueWest(two, 0, 4, 4, 35);
        dueWest(two, 0, 7, 64, 35);
        dueWest(two, 0, 9, 59, 14);
        dueLowest("n2e6;s2;w6", 0, 0);
        dueLowest("n7e13;n5e11;s3e7;s9w31", 0, 10);
        dueLowest("n9e31;n3w7;s5w11;s7w13", 0, 10);
    }

    private static void lowestTermsOfSmallTriangles() {
        for (int shape = 0; shape < 6 * 6 * 6 * 6; shape++) {
            int px = shape % 6, py = shape / 6 % 6, qx = shape / 36 % 6, qy = shape / 216;
            if (px * qy == qx * py) {
                continue;
            }
            String text = step(py, "n", "s") + step(px, "e", "w") + ";" + step(qy - py, "n", "s")
                + step(qx - px, "e", "w") + ";" + step(-qy, "n", "s") + step(-qx, "e", "w");
            LandDeeds land = landWith(text, 0, 0, 1);
            for (int x = 0; x <= 5; x++) {
                due("lowest terms, " + text + " at " + x, divisor(land.west(0, x, 0), land.west(0, x, 1)), 1);
            }
            dueWest(land, 0, Math.max(px, qx), Math.abs(px * qy - qx * py), 1);
        }
    }

    private static void lowerNumberAboveZero() {
        // Where nothing lies west the fraction is 0 by 1; the way round changes no sign.
        LandDeeds left = landWith("e3;n3;w3;s3", 10, 10, 1);
        LandDeeds right = landWith("n3;e3;s3;w3", 10, 10, 1);
        for (int x = 0; x <= 10; x++) {
            dueWest(left, 0, x, 0, 1);
            dueWest(right, 0, x, 0, 1);
        }
        dueWest(left, 0, 11, 6, 1);
        dueWest(right, 0, 11, 6, 1);
        // Nothing is left of the fraction that was asked for before.
        LandDeeds third = landWith("n2e6;s2;w6", 0, 0, 1);
        dueWest(third, 0, 1, 1, 3);
        dueWest(third, 0, 0, 0, 1);
        dueLowest("e3;n3;w3;s3", 10, 10);
        dueLowest("n3;e3;s3;w3", 10, 10);
        dueLowest(WHOLE_LAND, 0, 0);
    }

    // ---- "POSTS stand at all (x, y), x and y of 0 to 31; x grows to the east, y to the north."

    private static void postsAreFrom0To31() {
        LandDeeds all = landWith(WHOLE_LAND, 0, 0, 1);
        int[] edges = {-2, -1, 0, 1, 30, 31, 32, 33};
        for (int x : edges) {
            for (int y : edges) {
                boolean post = x >= 0 && x <= 31 && y >= 0 && y <= 31;
                due("right at " + x + ", " + y, all.right(x, y), post ? 0 : LandDeeds.OUTSIDE);
                boolean rim = x == 0 || x == 31 || y == 0 || y == 31;
                due("lies at " + x + ", " + y, all.lies(0, x, y), !post ? LandDeeds.OUTSIDE : rim ? 1 : 2);
                due("deed at " + x + ", " + y, all.deed(x, y, 1), post ? LandDeeds.FAULT : LandDeeds.OUTSIDE);
            }
        }
        due("all posts are 32 by 32", new LandDeeds().gap(0), 1024);
    }

    private static void waysOfTheLetters() {
        // Each triangle begins with one letter, and its second corner tells where that letter leads.
        dueCorners(landWith("n3;e2;s3w2", 9, 9, 1), 0, 9, 9, 9, 12, 11, 12);
        dueCorners(landWith("s3;e2;n3w2", 9, 9, 1), 0, 9, 9, 9, 6, 11, 6);
        dueCorners(landWith("e3;n2;s2w3", 9, 9, 1), 0, 9, 9, 12, 9, 12, 11);
        dueCorners(landWith("w3;n2;s2e3", 9, 9, 1), 0, 9, 9, 6, 9, 6, 11);
        dueCorners(landWith("n1e2;s3;n2w2", 9, 9, 1), 0, 9, 9, 11, 10, 11, 7);
        dueCorners(landWith("s1w2;n3;s2e2", 9, 9, 1), 0, 9, 9, 7, 8, 7, 11);
    }

    // ---- "THE TEXT has up to 48 signs."

    private static void fill(LandDeeds land, int from) {
        for (int i = from; i <= 48; i++) {
            due("sign " + i, land.say('!'), i);
        }
        due("a 49th sign", land.say('!'), LandDeeds.FULL);
        due("still 48", land.count(1), 48);
    }

    private static void textHasUpTo48Signs() {
        LandDeeds land = new LandDeeds();
        fill(land, 1);
        due("wiped", land.wipe(), 48);
        fill(land, 1);
        land.wipe();
        due("a deed", deedOf(land, UNIT, 0, 0, 1), 0);
        fill(land, 1);
        // A whole deed of 48 signs, in 8 calls.
        String longest = "n10e12;n10w11;s10w10;n1w10;s5w1;s5e10;s1w10;n1e9";
        due("its length", longest.length(), 48);
        due("48 signs are a text", faultOf(longest), LandDeeds.NONE);
        due("a sign less, too", faultOf("n10e12;n10w11;s10w10;n1w10;s5w1;s5e10;s1w10;n1e"), 47);
    }

    // ---- "It tells CALLS, 3 to 8, with ; between them."

    private static String calls(String call, int times) {
        StringBuilder text = new StringBuilder();
        for (int i = 0; i < times; i++) {
            text.append(i > 0 ? ";" : "").append(call);
        }
        return text.toString();
    }

    private static void callsAre3To8() {
        for (String call : new String[] {"n1", "s31", "e1", "w31", "n1e1", "s10w9"}) {
            for (int times = 0; times <= 8; times++) {
                String text = calls(call, times);
                due(times + " calls of " + call, faultOf(text), times < 3 ? text.length() : LandDeeds.NONE);
            }
        }
        for (String call : new String[] {"n1", "s31", "e1", "w31"}) {
            due("a ninth call of " + call, faultOf(calls(call, 9)), calls(call, 8).length());
            due("; behind the eighth of " + call, faultOf(calls(call, 8) + ";"), calls(call, 8).length());
        }
        due("; ahead", faultOf(";n1;n1;n1"), 0);
        due("; twice", faultOf("n1;;n1;n1"), 3);
        due("; behind the third", faultOf("n1;n1;n1;"), 9);
        due("no ; between", faultOf("n1n1n1"), 2);
        due("another sign between", faultOf("n1,n1,n1"), 2);
    }

    // ---- "A CALL: n or s, and a NUMBER; or e or w, and a NUMBER; or n or s, and a NUMBER, and e or w, and a NUMBER."

    private static void kindsOfCalls() {
        for (char first : "nsew".toCharArray()) {
            due("one leg " + first, faultOf("n1;n1;" + first + "7"), LandDeeds.NONE);
            for (char second : "nsew".toCharArray()) {
                boolean may = "ns".indexOf(first) >= 0 && "ew".indexOf(second) >= 0;
                String call = first + "7" + second + "8";
                due("two legs " + call, faultOf("n1;n1;" + call), may ? LandDeeds.NONE : 8);
                due("two letters " + call, faultOf("n1;n1;" + first + second + "8"), 7);
                if (may) {
                    due("three legs " + call, faultOf("n1;n1;" + call + first + "1"), 10);
                    due("three legs " + call, faultOf("n1;n1;" + call + second + "1"), 10);
                }
            }
        }
        due("a letter without a number", faultOf("n;n1;n1"), 1);
        due("a second leg without a number", faultOf("n1e;n1;n1"), 3);
        due("a great letter", faultOf("n1;n1;E1"), 6);
    }

    // ---- "A NUMBER: 1 to 31, without a 0 ahead."

    /** The place of the first sign by which none of the numbers 1 to 31 begins; -1: the number is one of them. */
    private static int faultInNumber(String number) {
        for (int end = 1; end <= number.length(); end++) {
            boolean begins = false;
            for (int n = 1; n <= 31; n++) {
                begins |= String.valueOf(n).startsWith(number.substring(0, end));
            }
            if (!begins) {
                return end - 1;
            }
        }
        return -1;
    }

    private static void numbersAre1To31() {
        for (String leg : new String[] {"n", "s", "e", "w", "n1e", "n1w", "s31e", "s31w"}) {
            String ahead = "n1;n1;" + leg;
            for (int n = 0; n <= 320; n++) {
                for (String number : new String[] {String.valueOf(n), "0" + n, "00" + n}) {
                    int place = faultInNumber(number);
                    due(ahead + number, faultOf(ahead + number), place < 0 ? LandDeeds.NONE : ahead.length() + place);
                }
            }
        }
        due("the least", telling("n1;n1;n1").miss(1), 1003);
        due("the greatest", telling("n31;n31;n31").miss(1), 1093);
    }

    // ---- "The FAULT of THE TEXT: the place of the first sign by which no such text can begin .."

    private static void dueFollowers(String text, String goingOn, String ending) {
        for (char sign = 33; sign <= 126; sign++) {
            boolean goesOn = goingOn.indexOf(sign) >= 0, ends = ending.indexOf(sign) >= 0;
            due("'" + text + "' and " + sign, faultOf(text + sign),
                ends ? LandDeeds.NONE : goesOn ? text.length() + 1 : text.length());
        }
    }

    private static void signsThatMayFollow() {
        dueFollowers("", "nsew", "");
        dueFollowers("n", FIRST_DIGITS, "");
        dueFollowers("e", FIRST_DIGITS, "");
        dueFollowers("n1", ALL_DIGITS + "ew;", "");
        dueFollowers("s2", ALL_DIGITS + "ew;", "");
        dueFollowers("n3", "01ew;", "");
        dueFollowers("s4", "ew;", "");
        dueFollowers("n10", "ew;", "");
        dueFollowers("w2", ALL_DIGITS + ";", "");
        dueFollowers("e3", "01;", "");
        dueFollowers("w9", ";", "");
        dueFollowers("e31", ";", "");
        dueFollowers("n1w", FIRST_DIGITS, "");
        dueFollowers("n1w3", "01;", "");
        dueFollowers("n1;", "nsew", "");
        dueFollowers("n1;n1;", "nsew", "");
        dueFollowers("n1;n1;s", "", FIRST_DIGITS);
        dueFollowers("n1;n1;s2", "ew;", ALL_DIGITS);
        dueFollowers("n1;n1;s3", "ew;", "01");
        dueFollowers("n1;n1;s30", "ew;", "");
        dueFollowers("n1;n1;e1", ";", ALL_DIGITS);
        dueFollowers("n1;n1;s1e", "", FIRST_DIGITS);
        dueFollowers("n1;n1;s1e3", ";", "01");
        dueFollowers("n1;n1;s1e31", ";", "");
        dueFollowers(SEVEN_CALLS, "nsew", "");
        dueFollowers(SEVEN_CALLS + "n1", "ew", ALL_DIGITS);
        dueFollowers(SEVEN_CALLS + "n31", "ew", "");
        dueFollowers(SEVEN_CALLS + "w1", "", ALL_DIGITS);
        dueFollowers(SEVEN_CALLS + "n31w31", "", "");
    }

    // ---- ".. that has all signs before it, too"

    private static void faultIsTheFirstOne() {
        due("what comes behind mends nothing", faultOf("n1;x;n1;n1;n1"), 3);
        due("nor does a second fault", faultOf("n0n0n0"), 1);
        LandDeeds land = telling("n1e2n");
        for (int i = 5; i < 48; i++) {
            due("the fault stays", land.fault(), 4);
            land.say('1');
        }
        due("at 48 signs, too", land.fault(), 4);
    }

    // ---- "how many signs it has, if it is the beginning of such a text, but none"

    private static void faultOfABeginning() {
        LandDeeds land = new LandDeeds();
        String text = "n10e20;s31";
        for (int i = 0; i < text.length(); i++) {
            due("beginning of " + i, land.fault(), i);
            land.say(text.charAt(i));
        }
        due("two calls", land.fault(), 10);
        due("; behind", land.say(';'), 11);
        due("two calls and ;", land.fault(), 11);
        land.say('w');
        due("a letter", land.fault(), 12);
        land.say('3');
        due("whole", land.fault(), LandDeeds.NONE);
        land.say('1');
        due("whole with a digit more", land.fault(), LandDeeds.NONE);
        land.say(';');
        due("open again", land.fault(), 15);
        due("what is only a beginning is no deed", land.deed(0, 0, 1), LandDeeds.FAULT);
        due("nor has it a miss", land.miss(0), LandDeeds.FAULT);
    }

    // ---- "Up to 6 PLOTS are numbered from 0 on as they come; when one goes, those behind it are one less."

    private static LandDeeds sixPlots() {
        LandDeeds land = new LandDeeds();
        for (int i = 0; i < 6; i++) {
            due("plot", deedOf(land, UNIT, 3 * i, 0, 10 + i), i);
        }
        return land;
    }

    private static void plotsAreNumberedAsTheyCome() {
        LandDeeds full = sixPlots();
        due("a seventh", deedOf(full, UNIT, 20, 20, 1), LandDeeds.FULL);
        for (int gone = 0; gone < 6; gone++) {
            LandDeeds land = sixPlots();
            due("one goes", land.drop(gone), 5);
            for (int i = 0; i < 5; i++) {
                int was = i < gone ? i : i + 1;
                due("its year", land.about(i, 0), 10 + was);
                due("its corner", land.corner(i, 0, 0), 3 * was);
                due("its right", land.right(3 * was, 0), i);
            }
            due("nothing is the sixth", land.about(5, 0), LandDeeds.UNKNOWN);
            due("a new one is the last", deedOf(land, UNIT, 20, 20, 1), 5);
            due("and then it is full", deedOf(land, UNIT, 25, 20, 1), LandDeeds.FULL);
        }
    }

    // ---- "Each has a YEAR, 1 to 999"

    private static void yearsAre1To999() {
        due("the first year", landWith(UNIT, 0, 0, 1).about(0, 0), 1);
        due("the last year", landWith(UNIT, 0, 0, 999).about(0, 0), 999);
        due("year 0", telling(UNIT).deed(0, 0, 0), LandDeeds.OUTSIDE);
        due("year 1000", telling(UNIT).deed(0, 0, 1000), LandDeeds.OUTSIDE);
        LandDeeds land = landWith(UNIT, 0, 0, 500);
        due("to the first", land.year(0, 1), 0);
        due("is the first", land.about(0, 0), 1);
        due("to the last", land.year(0, 999), 0);
        due("is the last", land.about(0, 0), 999);
        due("to 0", land.year(0, 0), LandDeeds.OUTSIDE);
        due("to 1000", land.year(0, 1000), LandDeeds.OUTSIDE);
        due("is the last still", land.about(0, 0), 999);
    }

    // ---- "LOOSE is 0 to 20 (4 at first)."

    private static void looseIs0To20() {
        LandDeeds land = new LandDeeds();
        int before = 4;
        for (int n = -3; n <= 24; n++) {
            boolean may = n >= 0 && n <= 20;
            due("loose " + n, land.loose(n), may ? before : LandDeeds.OUTSIDE);
            before = may ? n : before;
            due("loose is", land.count(2), before);
        }
    }

    // ---- "The MISS: by how much x, and y, of POINT n are greater than those of POINT 0 (less: below 0)."

    private static void missOfBothSigns() {
        LandDeeds land = new LandDeeds();
        for (int x = -10; x <= 20; x++) {
            for (int y = -10; y <= 20; y++) {
                land = telling("e21;n21;w" + (21 - x) + ";s" + (21 - y));
                due("miss in x", land.miss(0), 1000 + x);
                due("miss in y", land.miss(1), 1000 + y);
                due("far", land.miss(2), 84 - x - y);
                int off = Math.abs(x) + Math.abs(y);
                if (off > 0 && off <= 21) {
                    land.loose(off - 1);
                    due("a miss of 1 more than loose", land.deed(5, 5, 1), LandDeeds.NO);
                }
                if (off <= 20) {
                    land.loose(off);
                    due("a miss of as much as loose", land.deed(5, 5, 1) == LandDeeds.NO ? 1 : 0, 0);
                }
            }
        }
    }

    private static void missAndFarOfTheseCallsAlone() {
        // The second text has fewer calls: nothing of the first one's may be left.
        LandDeeds land = telling(calls("n10e20", 7));
        due("far of 7 calls", land.miss(2), 210);
        tell(land, "n1;e1;s1w1");
        due("far of 3 calls", land.miss(2), 4);
        due("miss in x", land.miss(0), 1000);
        due("miss in y", land.miss(1), 1000);
        due("deed", land.deed(5, 5, 1), 0);
        dueCorners(land, 0, 5, 5, 5, 6, 6, 6);
        // A call of two legs in the first text, of one leg in the second one.
        tell(land, "n9e9;n9e9;n9e9");
        due("far of two legs", land.miss(2), 54);
        tell(land, "e1;n1;e1");
        due("far of one leg each", land.miss(2), 3);
        due("miss in x", land.miss(0), 1002);
        due("miss in y", land.miss(1), 1001);
    }

    private static void missAndFarAtTheirGreatest() {
        LandDeeds northEast = telling(calls("n31e31", 7));
        due("48 signs", northEast.count(1), 48);
        due("east", northEast.miss(0), 1217);
        due("north", northEast.miss(1), 1217);
        due("far", northEast.miss(2), 434);
        LandDeeds southWest = telling(calls("s31w31", 7));
        due("west", southWest.miss(0), 783);
        due("south", southWest.miss(1), 783);
        due("far all the same", southWest.miss(2), 434);
        due("least far", telling("n1;n1;n1").miss(2), 3);
        due("back and forth", telling("n31;s31;n1").miss(2), 63);
    }

    // ---- "the MISS times FAR of k, by FAR of n, cut (what is broken off is left out: -7 by 2 is -3)"

    private static LandDeeds looseLand(String text, int x, int y) {
        LandDeeds land = new LandDeeds();
        land.loose(20);
        due("deed of " + text, deedOf(land, text, x, y, 1), 0);
        return land;
    }

    private static void shareOfTheMissIsCut() {
        // FAR is 8, 11, 15, 30. In one way the MISS is 7: shares 1 26/30, 2 17/30 and 3 1/2; in the other it is 1.
        dueCorners(looseLand("n8;e3;s4;s5w10", 10, 10), 0, 10, 10, 11, 18, 15, 18, 16, 14);
        dueCorners(looseLand("s8;w3;n4;n5e10", 20, 20), 0, 20, 20, 19, 12, 15, 12, 14, 16);
        dueCorners(looseLand("e8;n3;w4;s10w5", 10, 10), 0, 10, 10, 18, 11, 18, 15, 14, 16);
        dueCorners(looseLand("w8;s3;e4;n10e5", 20, 20), 0, 20, 20, 12, 19, 12, 15, 16, 14);
    }

    private static void cornersOfAnExactShare() {
        // MISS 4 to the east, FAR 4, 8, 12, 14, 16: shares of just 1, 2 and 3, and then of 3 1/2.
        dueCorners(looseLand("n4;e4;s4;n2;s2", 10, 10), 0, 10, 10, 9, 14, 12, 14, 11, 10, 11, 12);
        // Nothing is missed: the CORNERS are the POINTS.
        dueCorners(looseLand("n4;e4;s4;w4", 10, 10), 0, 10, 10, 10, 14, 14, 14, 14, 10);
        // The first CORNER is the POST, whatever is missed.
        dueCorners(looseLand("n10;w10;s10;e20", 20, 15), 0, 20, 15, 18, 25, 6, 25, 4, 15);
    }

    // ---- "SIDES: from each CORNER straight to the next one, from the last one to the first."

    private static void lastSideGoesToTheFirstCorner() {
        LandDeeds land = landWith("e4;n4;s4w4", 5, 5, 1);
        for (int i = 0; i <= 4; i++) {
            due("on the last side", land.lies(0, 5 + i, 5 + i), 1);
        }
        due("the last side written out", land.sign(0, 6), 's');
        // The last call ends a step short; the side goes all the way.
        LandDeeds shared = looseLand("e6;n6;w6;s5", 5, 5);
        due("on the last side", shared.lies(0, 5, 7), 1);
        dueText("closed", written(shared, 0), "e6;n6;w6;s6");
    }

    // ---- "A PLOT stands, if all CORNERS are POSTS"

    private static void dueStands(String text, int x, int y, boolean stands) {
        LandDeeds land = new LandDeeds();
        land.loose(20);
        due("deed of " + text + " at " + x + ", " + y, deedOf(land, text, x, y, 1), stands ? 0 : LandDeeds.AWRY);
    }

    private static String step(int along, String onward, String back) {
        return along > 0 ? onward + along : along < 0 ? back + -along : "";
    }

    /** The same shape begun at each CORNER, walked both ways, and with north and east exchanged. */
    private static void dueShape(boolean stands, int... places) {
        int n = places.length / 2;
        for (int way = 0; way < 4 * n; way++) {
            int turn = way % 2 == 0 ? 1 : n - 1, x = way / 2 % 2, y = 1 - x, first = way / 4, at = first;
            StringBuilder text = new StringBuilder();
            for (int i = 0; i < n; i++) {
                int next = (at + turn) % n;
                text.append(i > 0 ? ";" : "");
                text.append(step(places[2 * next + y] - places[2 * at + y], "n", "s"));
                text.append(step(places[2 * next + x] - places[2 * at + x], "e", "w"));
                at = next;
            }
            dueStands(text.toString(), places[2 * first + x], places[2 * first + y], stands);
        }
    }

    private static void cornersMustBePosts() {
        for (int x = 0; x <= 31; x++) {
            for (int y = 0; y <= 31; y++) {
                dueStands("e3;n3;w3;s3", x, y, x <= 28 && y <= 28);
                dueStands("w3;s3;e3;n3", x, y, x >= 3 && y >= 3);
            }
        }
        dueStands(WHOLE_LAND, 0, 0, true);
        dueStands(WHOLE_LAND, 1, 0, false);
        dueStands(WHOLE_LAND, 0, 1, false);
        // POINT 2 is at 32, its CORNER at 31; one POST to the east that CORNER is off the land.
        dueStands("n5;e4;s5;w2", 28, 5, true);
        dueStands("n5;e4;s5;w2", 29, 5, false);
        // POINT 2 is at 31 and its CORNER at 32.
        dueStands("n5;e3;s5;w5", 27, 5, true);
        dueStands("n5;e3;s5;w5", 28, 5, false);
        // The same at the west rim: POINT 2 at -1, and at 0.
        dueStands("n5;w4;s5;e2", 3, 5, true);
        dueStands("n5;w4;s5;e2", 2, 5, false);
        dueStands("n5;w3;s5;e5", 4, 5, true);
        dueStands("n5;w3;s5;e5", 3, 5, false);
    }

    // ---- "no SIDE is a mere point"

    private static void noSideIsAMerePoint() {
        // The step to the east is just what the MISS takes off there: CORNER 2 is CORNER 1.
        dueStands("n6;e1;e5;s6;w3", 10, 10, false);
        dueStands("n6;e6;s6;w3", 10, 10, true);
        // The last CORNER is the first one.
        dueStands("e4;n4;s4w4;n1", 10, 10, false);
        dueStands("e4;n4;s4w4", 10, 10, true);
        // All of a triangle's sides in two posts.
        dueStands("e1;w1;e1", 10, 10, false);
    }

    // ---- "no two SIDES have any point together"

    private static void sidesThatHaveAPointTogether() {
        // They cross between posts, and at a post.
        dueShape(false, 10, 10, 11, 11, 11, 10, 10, 11);
        dueShape(false, 10, 10, 13, 13, 13, 10, 10, 13);
        dueShape(false, 10, 10, 14, 14, 14, 10, 10, 14);
        // The last SIDE and the second one; the first SIDE and the last but one.
        dueShape(false, 10, 10, 14, 10, 14, 14, 18, 12);
        dueShape(false, 10, 10, 16, 10, 16, 13, 13, 13, 13, 9);
        // A CORNER on the middle of a SIDE, from within and from without; without the touch both stand.
        dueShape(false, 10, 10, 18, 10, 18, 14, 14, 10, 10, 14);
        dueShape(true, 10, 10, 18, 10, 18, 14, 14, 11, 10, 14);
        dueShape(false, 10, 10, 20, 10, 20, 12, 12, 12, 12, 16, 16, 12, 16, 18, 10, 18);
        dueShape(true, 10, 10, 20, 10, 20, 12, 12, 12, 12, 16, 16, 13, 16, 18, 10, 18);
        // A CORNER on the middle of a SIDE at a slant, and a step beside it.
        dueShape(false, 10, 10, 18, 18, 10, 18, 14, 14, 10, 12);
        dueShape(true, 10, 10, 18, 18, 10, 18, 13, 14, 10, 12);
        // Two CORNERS at one POST.
        dueShape(false, 10, 10, 14, 10, 14, 14, 18, 14, 18, 18, 14, 18, 14, 14, 10, 14);
        dueShape(false, 10, 10, 14, 14, 18, 10, 18, 18, 14, 14, 10, 18);
        // SIDES of one line, the one within the other, and the one partly on the other.
        dueShape(false, 10, 10, 18, 10, 18, 14, 16, 14, 16, 10, 12, 10, 12, 14, 10, 14);
        dueShape(false, 10, 10, 14, 10, 14, 14, 12, 14, 12, 10, 16, 10, 16, 8, 10, 8);
    }

    // ---- "but for two that follow one another (the first one follows the last one), which have just the CORNER .."

    private static void sidesThatFollowOneAnother() {
        // Straight on at a CORNER, and at a slant.
        dueShape(true, 10, 10, 12, 10, 14, 10, 14, 14, 10, 14);
        dueShape(true, 10, 10, 12, 12, 14, 14, 18, 14, 14, 12);
        // Back on the SIDE: by less than it, by just as much, by more.
        dueShape(false, 10, 10, 14, 10, 12, 10, 10, 14);
        dueShape(false, 10, 10, 14, 10, 10, 10, 10, 14);
        dueShape(false, 10, 10, 14, 10, 8, 10, 10, 14);
        dueShape(false, 10, 10, 14, 14, 12, 12, 16, 12);
        // The same with steps of 1 alone.
        dueShape(false, 10, 10, 11, 10, 10, 10, 10, 11);
        dueShape(false, 10, 10, 11, 10, 11, 11, 11, 10, 12, 10, 12, 9, 10, 9);
        // A triangle without an area.
        dueShape(false, 10, 10, 14, 10, 18, 10);
        dueShape(false, 10, 10, 12, 12, 14, 14);
        dueShape(false, 10, 10, 11, 10, 12, 10);
    }

    private static void sidesThatComeNear() {
        // Two SIDES of one line that are apart.
        dueShape(true, 10, 10, 12, 10, 12, 12, 14, 12, 14, 10, 16, 10, 16, 14, 10, 14);
        // The lines of the SIDES cross, the SIDES do not.
        dueShape(true, 10, 10, 18, 10, 18, 18, 17, 18, 14, 12, 11, 18, 10, 18);
        // A CORNER on the line of a SIDE, but beyond its end.
        dueShape(true, 10, 10, 14, 10, 14, 12, 18, 10, 18, 14, 10, 14);
        // A sliver: from 0, 0 to 31, 30 and back by 30, 29.
        dueShape(true, 0, 0, 31, 30, 30, 29);
    }

    // ---- "A POST is INSIDE a PLOT, if it lies in it, and on no SIDE. A PLOT HOLDS a POST, if it is INSIDE, or on a SIDE."

    private static void insideAndOnSides() {
        LandDeeds triangle = null;
        for (int y = 0; y < 32; y++) {
            triangle = landWith("e20;n10w10;s10w10", 5, 7, 1);
            for (int x = 0; x < 32; x++) {
                // From the west side, from the east side, and from the base.
                int west = x - 5 - (y - 7), east = 25 - x - (y - 7), base = y - 7;
                int least = Math.min(Math.min(west, east), base);
                due("lies " + x + ", " + y, triangle.lies(0, x, y), least < 0 ? 0 : least == 0 ? 1 : 2);
                due("right " + x + ", " + y, triangle.right(x, y), least < 0 ? LandDeeds.NONE : 0);
            }
        }
        // No POST but its ends lies on the side of 5 by 3; 1 east and 1 north of its start lies above it.
        LandDeeds steep = landWith("n3e5;s3;w5", 10, 10, 1);
        due("above the side", steep.lies(0, 11, 11), 0);
        due("below the side", steep.lies(0, 12, 11), 2);
        due("on the ends alone", steep.about(0, 5), 9);
        // In the notch of a plot, beside it, and at the tip of the notch.
        LandDeeds notch = landWith("e8;n4;s3w4;n3w4;s4", 10, 10, 1);
        due("in the notch", notch.lies(0, 14, 13), 0);
        due("its tip", notch.lies(0, 14, 11), 1);
        due("below the tip", notch.lies(0, 14, 10), 1);
        due("in the west arm", notch.lies(0, 11, 12), 2);
        due("in the east arm", notch.lies(0, 17, 12), 2);
        due("level with the arms' tops", notch.lies(0, 14, 14), 0);
        due("on the line of a side, beyond its end", notch.lies(0, 19, 10), 0);
    }

    // ---- "Of two PLOTS the OLDER one is that of the lesser YEAR, of one YEAR that of the lesser number."

    private static void olderIsOfTheLesserYear() {
        LandDeeds land = landWith(UNIT, 0, 0, 7);
        deedOf(land, UNIT, 0, 0, 7);
        deedOf(land, UNIT, 0, 0, 6);
        due("of one year, the lesser number", land.year(0, 7), 1);
        due("of one year, the greater number", land.year(1, 7), 2);
        due("the lesser year", land.year(2, 6), 0);
        due("now one year: the greatest number", land.year(2, 7), 2);
        due("all of one year: the least number", land.year(0, 7), 0);
        due("a year more", land.year(0, 8), 2);
        due("a year less", land.year(2, 6), 0);
        // The lesser number is what it is now: what was 1 is 0.
        land.drop(0);
        due("right of the older", land.right(0, 0), 1);
        due("of one year", land.year(1, 7), 1);
        due("right of the lesser number", land.right(0, 0), 0);
    }

    // ---- "The RIGHT to a POST: that of the oldest of the PLOTS that HOLD it."

    private static void rightOfTheOldestThatHolds() {
        LandDeeds land = landWith("e4;n4;w4;s4", 10, 10, 300);
        deedOf(land, "e4;n4;w4;s4", 14, 10, 200);
        deedOf(land, "e4;n4;w4;s4", 18, 10, 100);
        due("inside the first alone", land.right(13, 12), 0);
        due("on the sides of two", land.right(14, 12), 1);
        due("inside the second alone", land.right(15, 12), 1);
        due("on the sides of the two others", land.right(18, 12), 2);
        due("the oldest does not hold it", land.right(10, 10), 0);
        due("nobody holds it", land.right(9, 10), LandDeeds.NONE);
        due("nobody, to the east", land.right(23, 10), LandDeeds.NONE);
    }

    // ---- "A GAP: POSTS to which nobody has a RIGHT, as many as come together by steps .. north, south, east or west"

    private static void gapsGoByFourSteps() {
        // 1, 0 and 0, 1 are held: 0, 0 is cut off, though 1, 1 at a slant is free.
        dueGaps(landWith("e1;n1w2;s1e1", 1, 0, 1), 1021, 2, 1020, 3, 0);
        // Two walls, each with one way past it: the gap is walked to the north, then to the south again.
        LandDeeds upright = landWith("e1;n30;w1;s30", 2, 0, 1);
        deedOf(upright, "e1;n30;w1;s30", 6, 1, 1);
        dueGaps(upright, 900, 1, 900, 0, 0);
        // The same to the east, then to the west again.
        LandDeeds level = landWith("e30;n1;w30;s1", 0, 2, 1);
        deedOf(level, "e30;n1;w30;s1", 1, 6, 1);
        dueGaps(level, 900, 1, 900, 0, 0);
        // A roof of one POST's breadth on a floor: no step leads over it into the 15 POSTS below.
        LandDeeds roof = landWith("n5e5;s5e5;n4w5;s4w5", 10, 10, 1);
        deedOf(roof, "e10;n1;w10;s1", 10, 9, 1);
        dueGaps(roof, 992, 2, 977, 0, 0);
        // East of the last POST of a row does not come the first one of the next row.
        LandDeeds rows = landWith("e29;n31;w29;s31", 1, 0, 1);
        dueGaps(rows, 64, 2, 32, 0, 0);
    }
}
