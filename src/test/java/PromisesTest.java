/** The promises of the document one by one: ordinary inputs, the edges that it names, wrong inputs. */
public final class PromisesTest extends LandTest {
    public static void main(String[] args) {
        newObject();
        say();
        wipe();
        fault();
        faultOfNumbers();
        faultOfManyCalls();
        deed();
        deedOrderOfRefusals();
        deedThatMisses();
        deedThatDoesNotStand();
        deedFull();
        miss();
        loose();
        drop();
        year();
        about();
        corner();
        lies();
        sign();
        west();
        line();
        common();
        right();
        gap();
        gapsOfOneSize();
        count();
        images();
        restoreLeavesTextAlone();
        end("all promises hold");
    }

    private static void newObject() {
        LandDeeds land = new LandDeeds();
        due("1 plots", land.count(0), 0);
        due("1 signs", land.count(1), 0);
        due("1 loose", land.count(2), 4);
        due("1 disputed", land.count(3), 0);
        due("1 images", land.count(4), 0);
        due("1 restore 0", land.restore(0), LandDeeds.STATE);
        due("1 restore 1", land.restore(1), LandDeeds.STATE);
        due("1 drop", land.drop(0), LandDeeds.UNKNOWN);
        due("1 fault", land.fault(), 0);
        due("1 right", land.right(31, 31), LandDeeds.NONE);
    }

    private static void say() {
        LandDeeds land = new LandDeeds();
        due("2 below", land.say(32), LandDeeds.OUTSIDE);
        due("2 above", land.say(127), LandDeeds.OUTSIDE);
        due("2 lowest", land.say(LOWEST), LandDeeds.OUTSIDE);
        due("2 highest", land.say(HIGHEST), LandDeeds.OUTSIDE);
        due("2 as the low byte", land.say(256 + 'n'), LandDeeds.OUTSIDE);
        due("2 first sign", land.say(33), 1);
        due("2 last sign", land.say(126), 2);
        for (int i = 3; i <= 48; i++) {
            due("2 more", land.say('n'), i);
        }
        due("2 full", land.say('n'), LandDeeds.FULL);
        due("2 outside comes before full", land.say(32), LandDeeds.OUTSIDE);
        due("2 full changes nothing", land.count(1), 48);
    }

    private static void wipe() {
        LandDeeds land = new LandDeeds();
        due("3 of nothing", land.wipe(), 0);
        tell(land, "n5;e");
        due("3", land.wipe(), 4);
        due("3 again", land.wipe(), 0);
        due("3 then say", land.say('n'), 1);
        due("3 then fault", land.fault(), 1);
    }

    private static void fault() {
        due("4 empty", faultOf(""), 0);
        due("4 no call", faultOf("x"), 0);
        due("4 capital", faultOf("N1"), 0);
        due("4 ; first", faultOf(";"), 0);
        due("4 digit first", faultOf("1"), 0);
        due("4 letter alone", faultOf("n"), 1);
        due("4 two letters", faultOf("ne"), 1);
        due("4 no number", faultOf("n;"), 1);
        due("4 one call", faultOf("n1"), 2);
        due("4 two calls", faultOf("n1;e2"), 5);
        due("4 two calls and ;", faultOf("n1;e2;"), 6);
        due("4 half a third", faultOf("n1;e2;s"), 7);
        due("4 three calls", faultOf("n1;e2;s3"), LandDeeds.NONE);
        due("4 ; behind", faultOf("n1;e2;s3;"), 9);
        due("4 two ;", faultOf("n1;;"), 3);
        due("4 both legs", faultOf("n1e2;s3w4;s5"), LandDeeds.NONE);
        due("4 east first", faultOf("e1n2;s3;w4"), 2);
        due("4 north twice", faultOf("n1n2;s3;w4"), 2);
        due("4 north, south", faultOf("n1s2;s3;w4"), 2);
        due("4 east twice", faultOf("n1e2e3"), 4);
        due("4 north behind both", faultOf("n1e2n3"), 4);
        due("4 second leg is open", faultOf("n1;s2;s3w"), 9);
        due("4 second leg with none", faultOf("n1;s2;s3w;"), 9);
        due("4 the first fault counts", faultOf("n1;q;q"), 3);
        due("4 other sign in a number", faultOf("n1:e2"), 2);
        due("4 sign just below 0", faultOf("n/"), 1);
    }

    private static void faultOfNumbers() {
        due("4 0", faultOf("n0"), 1);
        due("4 0 ahead", faultOf("n01"), 1);
        due("4 0 ahead, second leg", faultOf("n1e0"), 3);
        due("4 10", faultOf("n10;e20;s30"), LandDeeds.NONE);
        due("4 31", faultOf("n31;e31;w31"), LandDeeds.NONE);
        due("4 32", faultOf("n32"), 2);
        due("4 39", faultOf("n39"), 2);
        due("4 40", faultOf("n40"), 2);
        due("4 three digits", faultOf("n100"), 3);
        due("4 three digits, 1", faultOf("n111"), 3);
        due("4 32, second leg", faultOf("n1w32"), 4);
        due("4 29", faultOf("s29;w19;e9"), LandDeeds.NONE);
    }

    private static void faultOfManyCalls() {
        due("4 eight", faultOf("n1;n2;n3;n4;n5;n6;n7;n8"), LandDeeds.NONE);
        due("4 eight and ;", faultOf("n1;n2;n3;n4;n5;n6;n7;n8;"), 23);
        due("4 nine", faultOf("n1;n2;n3;n4;n5;n6;n7;n8;n9"), 23);
        due("4 seven and ;", faultOf("n1;n2;n3;n4;n5;n6;n7;"), 21);
        due("4 eight, both legs", faultOf("n1;n2;n3;n4;n5;n6;n7;n8e9"), LandDeeds.NONE);
        due("4 48 signs", faultOf("n31e31;n31e31;n31e31;n31e31;n31e31;n31e31;n31e31"), LandDeeds.NONE);
        due("4 48 signs, open", faultOf("n31e31;n31e31;n31e31;n31e31;n31e31;n31e31;n31e3;"), 48);
    }

    private static void deed() {
        LandDeeds land = landWith("e4;n3;w4;s3", 2, 5, 1);
        due("5 text is empty", land.count(1), 0);
        dueCorners(land, 0, 2, 5, 6, 5, 6, 8, 2, 8);
        due("5 second", deedOf(land, "n2e2;s2;w2", 29, 29, 999), 1);
        dueCorners(land, 1, 29, 29, 31, 31, 31, 29);
        due("5 the whole land", deedOf(land, WHOLE_LAND, 0, 0, 5), 2);
        due("5 plots", land.count(0), 3);
    }

    private static void deedOrderOfRefusals() {
        LandDeeds land = new LandDeeds();
        int[][] outside = {{-1, 0, 1}, {32, 0, 1}, {0, -1, 1}, {0, 32, 1}, {0, 0, 0}, {0, 0, 1000},
            {LOWEST, 0, 1}, {0, HIGHEST, 1}, {0, 0, LOWEST}, {0, 0, HIGHEST}};
        tell(land, "n1");
        for (int[] numbers : outside) {
            due("5 outside ahead of fault", land.deed(numbers[0], numbers[1], numbers[2]), LandDeeds.OUTSIDE);
        }
        due("5 fault", land.deed(0, 0, 1), LandDeeds.FAULT);
        due("5 fault changes nothing", land.count(1), 2);
        tell(land, "n5;s5;e5");
        due("5 no comes ahead of awry", land.deed(0, 0, 1), LandDeeds.NO);
        due("5 no changes nothing", land.count(1), 8);
        land.loose(5);
        due("5 awry", land.deed(0, 0, 1), LandDeeds.AWRY);
        due("5 awry changes nothing", land.count(1), 8);
        due("5 no plot came", land.count(0), 0);
    }

    private static void deedThatMisses() {
        LandDeeds land = new LandDeeds();
        // Misses 2 to the east and 2 to the south, 28 steps in all.
        tell(land, "e8;n6;w6;s8");
        due("6 east", land.miss(0), 1002);
        due("6 south", land.miss(1), 998);
        due("6 far", land.miss(2), 28);
        land.loose(3);
        due("5 too loose", land.deed(10, 10, 7), LandDeeds.NO);
        land.loose(4);
        due("5 just loose enough", land.deed(10, 10, 7), 0);
        // At 8 steps 16 by 28 is cut to 0; at 14, 28 by 28 is 1; at 20, 40 by 28 is cut to 1.
        dueCorners(land, 0, 10, 10, 18, 10, 17, 17, 11, 17);
        dueText("13 of the mended plot", written(land, 0), "e8;n7w1;w6;s7w1");
        // Misses the other way: -16 by 28 is cut to 0 and not to -1.
        due("5 misses west", deedOf(land, "w8;s6;e6;n8", 20, 20, 7), 1);
        dueCorners(land, 1, 20, 20, 12, 20, 13, 13, 19, 13);
        // A point off the land does no harm, if its corner is on it.
        due("5 point off the land", deedOf(land, "n4;e3;s4;w1", 29, 5, 1), 2);
        dueCorners(land, 2, 29, 5, 29, 9, 31, 9, 31, 5);
        LandDeeds strict = new LandDeeds();
        strict.loose(0);
        due("5 misses by 1", deedOf(strict, "e3;n3;w2;s3", 5, 5, 1), LandDeeds.NO);
        due("5 misses by none", deedOf(strict, "e3;n3;w3;s3", 5, 5, 1), 0);
        LandDeeds lax = new LandDeeds();
        lax.loose(20);
        due("5 misses by 21", deedOf(lax, "e20;n4e7;w10", 0, 2, 1), LandDeeds.NO);
        due("5 misses by 20", deedOf(lax, "e20;n4e6;w10", 0, 2, 1), 0);
        dueCorners(lax, 0, 0, 2, 12, 0, 14, 3);
        // Both 435 by 39 and 116 by 39 are cut: 11 and 2.
        due("5 misses by 19", deedOf(lax, "e20;n4e5;w10", 0, 2, 1), 1);
        dueCorners(lax, 1, 0, 2, 13, 0, 14, 4);
        due("5 a corner just off the land", deedOf(lax, "e20;n4e5;w10", 0, 1, 1), LandDeeds.AWRY);
    }

    private static void dueAwry(String text, int x, int y) {
        LandDeeds land = new LandDeeds();
        land.loose(20);
        due("5 awry " + text, deedOf(land, text, x, y, 1), LandDeeds.AWRY);
    }

    private static void deedThatDoesNotStand() {
        dueAwry("e4;w2;w2", 9, 9);
        dueAwry("e4;n4;w4;s4", 28, 0);
        dueAwry("e4;n4;w4;s4", 0, 28);
        dueAwry("w4;n4;e4;s4", 3, 0);
        dueAwry("e4;s4;w4;n4", 0, 3);
        dueAwry("n4e4;s4;n4w4;s4", 5, 5);
        // A spike that is gone back on.
        dueAwry("e4;n4;w4;w2;e2;s4", 9, 9);
        // The last side lies on the first one, and the first on the last.
        dueAwry("e4;n2;w2;s2;w2", 9, 9);
        // A corner on another side, and two corners at one post.
        dueAwry("e8;n4;s4w4;n4w4;s4", 5, 5);
        dueAwry("e4;n4;e4;n4;w4;s4;w4;s4", 5, 5);
        // A last side that is a mere point: closed a call too early.
        dueAwry("e1;n1;s1w1;n1", 9, 9);
        // Corners in a line between two sides are no harm.
        due("5 straight on", deedOf(new LandDeeds(), "e2;e2;n4;w4;s4", 9, 9, 1), 0);
        due("5 straight on at the start", deedOf(new LandDeeds(), "e2;n4;w4;s4;e2", 9, 9, 1), 0);
        due("5 crossing", deedOf(new LandDeeds(), "n4e4;s4;n4w4;s4", 5, 5, 1), LandDeeds.AWRY);
        due("5 a notch", deedOf(new LandDeeds(), "e8;n4;s3w4;n3w4;s4", 5, 5, 1), 0);
    }

    private static void deedFull() {
        LandDeeds land = new LandDeeds();
        for (int i = 0; i < 6; i++) {
            due("5 plot", deedOf(land, "e1;n1;w1;s1", i, i, 9), i);
        }
        due("5 awry ahead of full", deedOf(land, "e4;w2;w2", 9, 9, 1), LandDeeds.AWRY);
        due("5 fault ahead of full", deedOf(land, "e4", 9, 9, 1), LandDeeds.FAULT);
        due("5 no ahead of full", deedOf(land, "e4;n4;s9", 9, 9, 1), LandDeeds.NO);
        due("5 full", deedOf(land, "e1;n1;w1;s1", 9, 9, 1), LandDeeds.FULL);
        due("5 full leaves the text", land.count(1), 11);
        due("5 full leaves the plots", land.count(0), 6);
        due("8 room again", land.drop(3), 5);
        due("5 room again", land.deed(9, 9, 1), 5);
    }

    private static void miss() {
        LandDeeds land = new LandDeeds();
        due("6 fault", land.miss(0), LandDeeds.FAULT);
        due("6 fault ahead of outside", land.miss(9), LandDeeds.FAULT);
        tell(land, "n31w31;n31w31;n31w31");
        due("6 west", land.miss(0), 1000 - 93);
        due("6 north", land.miss(1), 1000 + 93);
        due("6 far", land.miss(2), 186);
        due("6 outside", land.miss(3), LandDeeds.OUTSIDE);
        due("6 below", land.miss(-1), LandDeeds.OUTSIDE);
        due("6 lowest", land.miss(LOWEST), LandDeeds.OUTSIDE);
        tell(land, "n1;e20;s3w4");
        due("6 x", land.miss(0), 1016);
        due("6 y", land.miss(1), 998);
        due("6 far of both legs", land.miss(2), 28);
        due("6 changes nothing", land.count(1), 11);
    }

    private static void loose() {
        LandDeeds land = new LandDeeds();
        due("7 first", land.loose(0), 4);
        due("7 then", land.loose(20), 0);
        due("7 above", land.loose(21), LandDeeds.OUTSIDE);
        due("7 below", land.loose(-1), LandDeeds.OUTSIDE);
        due("7 lowest", land.loose(LOWEST), LandDeeds.OUTSIDE);
        due("7 unchanged", land.loose(20), 20);
    }

    private static void drop() {
        LandDeeds land = landWith("e2;n2;w2;s2", 0, 0, 10);
        deedOf(land, "e3;n3;w3;s3", 10, 0, 20);
        deedOf(land, "e4;n4;w4;s4", 20, 0, 30);
        due("8 below", land.drop(-1), LandDeeds.UNKNOWN);
        due("8 above", land.drop(3), LandDeeds.UNKNOWN);
        due("8 lowest", land.drop(LOWEST), LandDeeds.UNKNOWN);
        due("8", land.drop(1), 2);
        due("8 the one ahead stays", land.about(0, 0), 10);
        due("8 those behind are one less", land.about(1, 0), 30);
        due("8 with their corners", land.corner(1, 0, 0), 20);
        due("8 right", land.right(21, 1), 1);
        due("8 right of the one that went", land.right(11, 1), LandDeeds.NONE);
        due("8 last", land.drop(1), 1);
        due("8 gone", land.about(1, 0), LandDeeds.UNKNOWN);
        due("8 none", land.drop(0), 0);
    }

    private static void year() {
        LandDeeds land = landWith("e2;n2;w2;s2", 0, 0, 10);
        deedOf(land, "e2;n2;w2;s2", 1, 1, 20);
        deedOf(land, "e2;n2;w2;s2", 2, 2, 20);
        due("9 unknown ahead of outside", land.year(3, 0), LandDeeds.UNKNOWN);
        due("9 unknown", land.year(-1, 5), LandDeeds.UNKNOWN);
        due("9 below", land.year(0, 0), LandDeeds.OUTSIDE);
        due("9 above", land.year(0, 1000), LandDeeds.OUTSIDE);
        due("9 outside changes nothing", land.about(0, 0), 10);
        due("9 the same", land.year(2, 20), 2);
        due("9 of one year the lesser number", land.year(1, 20), 1);
        due("9 oldest", land.year(2, 1), 0);
        due("9 newest", land.year(0, 999), 2);
        due("9 is it", land.about(0, 0), 999);
    }

    private static void about() {
        // A square with a notch from the north: 6 by 4, less a triangle of 4 by 3.
        LandDeeds land = landWith("e6;n4;w1;s3w2;n3w2;w1;s4", 1, 1, 77);
        due("10 year", land.about(0, 0), 77);
        due("10 corners", land.about(0, 1), 7);
        due("10 area", land.about(0, 2), 36);
        due("10 left", land.about(0, 3), 1);
        due("10 inside", land.about(0, 4), 10);
        due("10 on sides", land.about(0, 5), 18);
        due("10 lost", land.about(0, 6), 0);
        due("10 outside", land.about(0, 7), LandDeeds.OUTSIDE);
        due("10 below", land.about(0, -1), LandDeeds.OUTSIDE);
        due("10 unknown ahead of outside", land.about(1, 7), LandDeeds.UNKNOWN);
        due("10 unknown", land.about(-1, 0), LandDeeds.UNKNOWN);
        deedOf(land, "n2;e9;s2;w9", 0, 0, 76);
        due("10 right", land.about(1, 3), 0);
        due("10 area, to the right", land.about(1, 2), 36);
        due("10 lost to the older", land.about(0, 6), 14);
        due("10 the older loses none", land.about(1, 6), 0);
        deedOf(land, "n2;e9;s2;w9", 0, 0, 76);
        due("10 lost once only", land.about(0, 6), 14);
        due("10 lost to the lesser number", land.about(2, 6), 30);
    }

    private static void corner() {
        LandDeeds land = landWith("n3;e5;s3w5", 4, 6, 3);
        dueCorners(land, 0, 4, 6, 4, 9, 9, 9);
        due("11 none", land.corner(0, 3, 0), LandDeeds.NONE);
        due("11 below", land.corner(0, -1, 1), LandDeeds.NONE);
        due("11 lowest", land.corner(0, LOWEST, 0), LandDeeds.NONE);
        due("11 highest", land.corner(0, HIGHEST, 0), LandDeeds.NONE);
        due("11 outside", land.corner(0, 0, 2), LandDeeds.OUTSIDE);
        due("11 outside below", land.corner(0, 0, -1), LandDeeds.OUTSIDE);
        due("11 refusal ahead of none", land.corner(0, 9, 2), LandDeeds.OUTSIDE);
        due("11 unknown", land.corner(1, 0, 2), LandDeeds.UNKNOWN);
    }

    private static void lies() {
        LandDeeds land = landWith("n4e4;s4e4;w8", 3, 3, 3);
        due("12 corner", land.lies(0, 3, 3), 1);
        due("12 top", land.lies(0, 7, 7), 1);
        due("12 slope", land.lies(0, 5, 5), 1);
        due("12 inside", land.lies(0, 6, 5), 2);
        due("12 under the top", land.lies(0, 7, 6), 2);
        due("12 beside the top", land.lies(0, 6, 7), 0);
        due("12 west of a corner", land.lies(0, 2, 3), 0);
        due("12 level with the base", land.lies(0, 12, 3), 0);
        due("12 far", land.lies(0, 31, 31), 0);
        due("12 x", land.lies(0, 32, 0), LandDeeds.OUTSIDE);
        due("12 x below", land.lies(0, -1, 0), LandDeeds.OUTSIDE);
        due("12 y", land.lies(0, 0, 32), LandDeeds.OUTSIDE);
        due("12 y below", land.lies(0, 0, -1), LandDeeds.OUTSIDE);
        due("12 unknown ahead of outside", land.lies(1, -1, 0), LandDeeds.UNKNOWN);
        LandDeeds all = landWith(WHOLE_LAND, 0, 0, 1);
        due("12 far corner", all.lies(0, 31, 31), 1);
        due("12 east side", all.lies(0, 31, 17), 1);
        due("12 beside it", all.lies(0, 30, 30), 2);
    }

    private static void sign() {
        LandDeeds land = landWith("n10e5;s10;w5", 0, 0, 1);
        dueText("13", written(land, 0), "n10e5;s10;w5");
        due("13 none", land.sign(0, 12), LandDeeds.NONE);
        due("13 below", land.sign(0, -2), LandDeeds.NONE);
        due("13 lowest", land.sign(0, LOWEST), LandDeeds.NONE);
        due("13 highest", land.sign(0, HIGHEST), LandDeeds.NONE);
        due("13 unknown", land.sign(1, 0), LandDeeds.UNKNOWN);
        due("13 unknown length", land.sign(-1, -1), LandDeeds.UNKNOWN);
        // What is written out brings the same plot again, and misses nothing.
        deedOf(land, "e8;n6;w6;s8", 10, 10, 7);
        String mended = written(land, 1);
        land.loose(0);
        due("13 again", deedOf(land, mended, 10, 10, 7), 2);
        dueText("13 the same", written(land, 2), mended);
    }

    private static void west() {
        LandDeeds land = landWith("n4e3;s4e4;w7", 2, 1, 1);
        dueWest(land, 0, 0, 0, 1);
        dueWest(land, 0, 2, 0, 1);
        dueWest(land, 0, 3, 4, 3);
        dueWest(land, 0, 4, 16, 3);
        dueWest(land, 0, 5, 12, 1);
        dueWest(land, 0, 6, 19, 1);
        dueWest(land, 0, 9, 28, 1);
        dueWest(land, 0, 31, 28, 1);
        due("14 x", land.west(0, 32, 0), LandDeeds.OUTSIDE);
        due("14 x below", land.west(0, -1, 0), LandDeeds.OUTSIDE);
        due("14 what", land.west(0, 0, 2), LandDeeds.OUTSIDE);
        due("14 what below", land.west(0, 0, -1), LandDeeds.OUTSIDE);
        due("14 unknown ahead of outside", land.west(1, 32, 2), LandDeeds.UNKNOWN);
        // A notch from the east, so that the line meets four sides.
        deedOf(land, "e9;n3w7;n3e7;w9;s6", 20, 20, 1);
        dueWest(land, 1, 22, 24, 1);
        dueWest(land, 1, 23, 246, 7);
        dueWest(land, 1, 29, 66, 1);
        // The same walked the other way.
        deedOf(land, "n6;e9;s3w7;s3e7;w9", 20, 20, 1);
        dueWest(land, 2, 23, 246, 7);
    }

    private static void line() {
        LandDeeds land = landWith("n4e3;s4e4;w7", 2, 1, 1);
        due("15 least wish", land.line(0, 1), 3);
        due("15 a third above", land.line(0, 2), 4);
        due("15 just below", land.line(0, 5), 4);
        due("15 just above", land.line(0, 6), 5);
        due("15 just as much", land.line(0, 12), 5);
        due("15 all", land.line(0, 28), 9);
        due("15 more than all", land.line(0, 29), LandDeeds.NONE);
        due("15 greatest wish", land.line(0, 2000), LandDeeds.NONE);
        due("15 below", land.line(0, 0), LandDeeds.OUTSIDE);
        due("15 above", land.line(0, 2001), LandDeeds.OUTSIDE);
        due("15 lowest", land.line(0, LOWEST), LandDeeds.OUTSIDE);
        due("15 unknown ahead of outside", land.line(1, 0), LandDeeds.UNKNOWN);
        LandDeeds all = landWith(WHOLE_LAND, 0, 0, 1);
        due("15 the last line", all.line(0, 1922), 31);
        due("15 none", all.line(0, 1923), LandDeeds.NONE);
    }

    private static void common() {
        LandDeeds land = landWith("e6;n6;w6;s6", 0, 0, 1);
        deedOf(land, "e6;n6;w6;s6", 3, 0, 1);
        deedOf(land, "e3;n3;w3;s3", 20, 20, 1);
        due("16 inside", land.common(0, 1, 0), 10);
        due("16 sides", land.common(0, 1, 1), 8);
        due("16 held", land.common(0, 1, 2), 28);
        due("16 the other way", land.common(1, 0, 2), 28);
        due("16 with itself, inside", land.common(0, 0, 0), 25);
        due("16 with itself, sides", land.common(0, 0, 1), 24);
        due("16 apart", land.common(0, 2, 2), 0);
        due("16 outside", land.common(0, 1, 3), LandDeeds.OUTSIDE);
        due("16 below", land.common(0, 1, -1), LandDeeds.OUTSIDE);
        due("16 first unknown", land.common(3, 0, 3), LandDeeds.UNKNOWN);
        due("16 second unknown", land.common(0, 3, 3), LandDeeds.UNKNOWN);
        due("16 second below", land.common(0, -1, 0), LandDeeds.UNKNOWN);
    }

    private static void right() {
        LandDeeds land = landWith("e6;n6;w6;s6", 0, 0, 30);
        deedOf(land, "e6;n6;w6;s6", 3, 3, 20);
        deedOf(land, "e6;n6;w6;s6", 4, 4, 20);
        due("17 oldest", land.right(5, 5), 1);
        due("17 on a side", land.right(3, 3), 1);
        due("17 first alone", land.right(2, 2), 0);
        due("17 last alone", land.right(10, 10), 2);
        due("17 nobody", land.right(11, 11), LandDeeds.NONE);
        land.year(2, 19);
        due("17 another year", land.right(5, 5), 2);
        land.year(0, 19);
        due("17 of one year", land.right(5, 5), 0);
        due("17 x", land.right(32, 0), LandDeeds.OUTSIDE);
        due("17 x below", land.right(-1, 0), LandDeeds.OUTSIDE);
        due("17 y", land.right(0, 32), LandDeeds.OUTSIDE);
        due("17 y below", land.right(0, LOWEST), LandDeeds.OUTSIDE);
    }

    private static void gap() {
        LandDeeds land = new LandDeeds();
        dueGaps(land, 1024, 1, 1024, 0, 0);
        due("18 outside", land.gap(5), LandDeeds.OUTSIDE);
        due("18 below", land.gap(-1), LandDeeds.OUTSIDE);
        // A band from west to east: 10 rows to the south of it, 20 to the north.
        deedOf(land, "e31;n1;w31;s1", 0, 10, 5);
        dueGaps(land, 960, 2, 640, 0, 12);
        // The steps go in four ways: a row of posts at a slant parts what lies beside it.
        LandDeeds slant = landWith("n31e31;s1;s30w31", 0, 0, 5);
        dueGaps(slant, 991, 2, 496, 0, 1);
        LandDeeds all = landWith(WHOLE_LAND, 0, 0, 1);
        dueGaps(all, 0, 0, 0, LandDeeds.NONE, LandDeeds.NONE);
    }

    private static void gapsOfOneSize() {
        // All but the corners of the land: four gaps of one post each.
        LandDeeds land = landWith("e29;n1e1;n29;n1w1;w29;s1w1;s29;s1e1", 1, 0, 1);
        dueGaps(land, 4, 4, 1, 0, 0);
        deedOf(land, "e1;n1;w1;s1", 0, 0, 1);
        dueGaps(land, 3, 3, 1, 31, 0);
        deedOf(land, "e1;n1;w1;s1", 30, 0, 1);
        dueGaps(land, 2, 2, 1, 0, 31);
        deedOf(land, "e1;n1;w1;s1", 0, 30, 1);
        dueGaps(land, 1, 1, 1, 31, 31);
    }

    private static void count() {
        LandDeeds land = landWith("e6;n6;w6;s6", 0, 0, 30);
        deedOf(land, "e6;n6;w6;s6", 3, 3, 20);
        due("19 two", land.count(3), 16);
        deedOf(land, "e6;n6;w6;s6", 4, 4, 20);
        due("19 three", land.count(3), 43);
        tell(land, "n1;");
        due("19 plots", land.count(0), 3);
        due("19 signs", land.count(1), 3);
        land.loose(17);
        due("19 loose", land.count(2), 17);
        due("19 no image", land.count(4), 0);
        land.image(1);
        due("19 the second image", land.count(4), 2);
        land.image(0);
        due("19 both", land.count(4), 3);
        land.image(0);
        due("19 both still", land.count(4), 3);
        due("19 above", land.count(5), LandDeeds.OUTSIDE);
        due("19 below", land.count(-1), LandDeeds.OUTSIDE);
        LandDeeds other = new LandDeeds();
        other.image(0);
        due("19 the first image", other.count(4), 1);
    }

    private static void images() {
        LandDeeds land = landWith("e6;n6;w6;s6", 0, 0, 30);
        due("20 keep", land.image(0), 1);
        due("20 above", land.image(2), LandDeeds.OUTSIDE);
        due("20 below", land.image(-1), LandDeeds.OUTSIDE);
        due("20 as if shifted", land.image(32), LandDeeds.OUTSIDE);
        due("21 above", land.restore(2), LandDeeds.OUTSIDE);
        due("21 below", land.restore(-1), LandDeeds.OUTSIDE);
        due("21 nothing kept", land.restore(1), LandDeeds.STATE);
        land.year(0, 999);
        land.loose(9);
        deedOf(land, "e1;n1;w1;s1", 9, 9, 1);
        due("20 the other", land.image(1), 1);
        due("21 first", land.restore(0), 1);
        due("21 plots", land.count(0), 1);
        due("21 loose", land.count(2), 4);
        due("21 year", land.about(0, 0), 30);
        land.year(0, 5);
        land.drop(0);
        due("21 the image stays", land.restore(0), 1);
        due("21 year again", land.about(0, 0), 30);
        due("21 second", land.restore(1), 1);
        due("21 its plots", land.count(0), 2);
        due("21 its loose", land.count(2), 9);
        due("21 its year", land.about(0, 0), 999);
        due("21 its right", land.right(9, 9), 1);
        land.drop(0);
        due("20 in place of the first", land.image(0), 1);
        land.restore(1);
        land.restore(0);
        due("21 the new one", land.count(0), 1);
        due("21 the new one's corner", land.corner(0, 0, 0), 9);
        due("21 images stay", land.count(4), 3);
    }

    private static void restoreLeavesTextAlone() {
        LandDeeds land = new LandDeeds();
        tell(land, "n1;e2");
        land.image(0);
        land.say(';');
        land.restore(0);
        due("21 the text is not of the image", land.count(1), 6);
        due("21 nor is its fault", land.fault(), 6);
    }
}
