import java.util.ArrayList;
import java.util.Arrays;
import java.util.LinkedHashMap;
import java.util.List;
import java.util.Map;
import java.util.Set;
import java.util.TreeMap;
import java.util.TreeSet;
import java.util.function.IntToLongFunction;
import java.util.function.Supplier;

/** What is refused: which numbers are, which refusal comes first, and that a refused call changes nothing. */
public final class RefusalsTest extends LandTest {
    private static final int UNKNOWN = LandDeeds.UNKNOWN, OUTSIDE = LandDeeds.OUTSIDE, STATE = LandDeeds.STATE,
        FULL = LandDeeds.FULL, NO = LandDeeds.NO, NONE = LandDeeds.NONE, FAULT = LandDeeds.FAULT, AWRY = LandDeeds.AWRY;
    // Misses by 5 to the north and lies in one line; closes, but crosses itself.
    private static final String TOO_LOOSE = "n5;s5;n5", CROSSING = "n4e4;s4;n4w4;s4";

    public static void main(String[] args) {
        numbersOfDeeds();
        numbersOfOnePlot();
        numbersOfAllPlots();
        numbersOfPlots();
        orderOfSay();
        orderOfDeed();
        orderOfDeedWhenFull();
        orderOfMiss();
        orderOfYear();
        orderOfOnePlot();
        orderOfCommon();
        orderOfRestore();
        noneIsNoRefusal();
        refusedCallsChangeNothing();
        end("all refusals are as told");
    }

    // ---- the least and the greatest number that is taken, and those just outside

    private static void taken(String what, int least, int greatest, IntToLongFunction call) {
        for (int n = least - 40; n <= greatest + 40; n++) {
            dueTaken(what, least, greatest, n, call);
        }
        // Numbers that come into the range when a part of their bits is lost.
        for (int lost : new int[] {256, 1 << 16, 1 << 24, LOWEST, -256, -(1 << 16)}) {
            dueTaken(what, least, greatest, least + lost, call);
            dueTaken(what, least, greatest, greatest + lost, call);
        }
        for (int n : new int[] {LOWEST, LOWEST + 1, -HIGHEST / 2, HIGHEST / 2, HIGHEST - 1, HIGHEST}) {
            dueTaken(what, least, greatest, n, call);
        }
    }

    private static void dueTaken(String what, int least, int greatest, int n, IntToLongFunction call) {
        boolean outside = n < least || n > greatest;
        due(what + " of " + n + " is refused", call.applyAsLong(n) == OUTSIDE ? 1 : 0, outside ? 1 : 0);
    }

    private static LandDeeds unit() {
        return landWith(UNIT, 5, 5, 5);
    }

    private static LandDeeds kept() {
        LandDeeds land = unit();
        land.image(0);
        land.image(1);
        return land;
    }

    private static void numbersOfDeeds() {
        taken("2 sign", 33, 126, n -> new LandDeeds().say(n));
        taken("5 x", 0, 31, n -> telling(UNIT).deed(n, 5, 5));
        taken("5 y", 0, 31, n -> telling(UNIT).deed(5, n, 5));
        taken("5 year", 1, 999, n -> telling(UNIT).deed(5, 5, n));
        taken("6 what", 0, 2, n -> telling(UNIT).miss(n));
        taken("7 n", 0, 20, n -> new LandDeeds().loose(n));
        taken("9 year", 1, 999, n -> unit().year(0, n));
    }

    private static void numbersOfOnePlot() {
        taken("10 what", 0, 6, n -> unit().about(0, n));
        taken("11 what", 0, 1, n -> unit().corner(0, 0, n));
        taken("12 x", 0, 31, n -> unit().lies(0, n, 5));
        taken("12 y", 0, 31, n -> unit().lies(0, 5, n));
        taken("14 x", 0, 31, n -> unit().west(0, n, 0));
        taken("14 x, lower number", 0, 31, n -> unit().west(0, n, 1));
        taken("14 what", 0, 1, n -> unit().west(0, 6, n));
        taken("15 wish", 1, 2000, n -> unit().line(0, n));
    }

    private static void numbersOfAllPlots() {
        taken("16 what", 0, 2, n -> unit().common(0, 0, n));
        taken("17 x", 0, 31, n -> unit().right(n, 5));
        taken("17 y", 0, 31, n -> unit().right(5, n));
        taken("18 what", 0, 4, n -> unit().gap(n));
        taken("19 what", 0, 4, n -> unit().count(n));
        taken("20 k", 0, 1, n -> new LandDeeds().image(n));
        taken("21 k", 0, 1, n -> kept().restore(n));
        taken("21 k, nothing kept", 0, 1, n -> new LandDeeds().restore(n));
    }

    // ---- "UNKNOWN -1 (no such PLOT)"

    private static LandDeeds landOf(int plots) {
        LandDeeds land = new LandDeeds();
        for (int i = 0; i < plots; i++) {
            due("plot", deedOf(land, UNIT, i, 2 * i, 9), i);
        }
        return land;
    }

    private static void dueKnown(String what, IntToLongFunction call, int plots, int plot) {
        boolean known = plot >= 0 && plot < plots;
        due(what + " of " + plot + " of " + plots, call.applyAsLong(plot) == UNKNOWN ? 1 : 0, known ? 0 : 1);
    }

    private static void numbersOfPlots() {
        int[] numbers = {LOWEST, -256, -7, -6, -2, -1, 0, 1, 2, 3, 4, 5, 6, 7, 8, 32, 256, HIGHEST};
        for (int plots = 0; plots <= 6; plots++) {
            for (int plot : numbers) {
                LandDeeds land = landOf(plots);
                dueKnown("9 year", n -> land.year(n, 9), plots, plot);
                dueKnown("10 about", n -> land.about(n, 0), plots, plot);
                dueKnown("11 corner", n -> land.corner(n, 0, 0), plots, plot);
                dueKnown("12 lies", n -> land.lies(n, 0, 0), plots, plot);
                dueKnown("13 sign", n -> land.sign(n, -1), plots, plot);
                dueKnown("14 west", n -> land.west(n, 0, 0), plots, plot);
                dueKnown("15 line", n -> land.line(n, 1), plots, plot);
                dueKnown("16 common with itself", n -> land.common(n, n, 0), plots, plot);
                if (plots > 0) {
                    dueKnown("16 common, the one", n -> land.common(n, 0, 0), plots, plot);
                    dueKnown("16 common, the other", n -> land.common(0, n, 0), plots, plot);
                }
                dueKnown("8 drop", n -> land.drop(n), plots, plot);
            }
            LandDeeds dropped = landOf(plots);
            if (plots > 0) {
                dropped.drop(0);
                due("the last number is free after a drop", dropped.drop(plots - 1), UNKNOWN);
            }
        }
    }

    // ---- "the first of these that fits, in the order in which they are told with the call"

    private static void orderOfSay() {
        LandDeeds land = telling("n31e31;n31e31;n31e31;n31e31;n31e31;n31e31;n31e31");
        due("2 OUTSIDE, FULL", land.say(32), OUTSIDE);
        due("2 OUTSIDE, FULL", land.say(127), OUTSIDE);
        due("2 FULL", land.say(33), FULL);
        due("2 FULL", land.say(126), FULL);
    }

    private static void dueOutside(String what, LandDeeds land) {
        due(what + " x", land.deed(-1, 0, 1), OUTSIDE);
        due(what + " x", land.deed(32, 0, 1), OUTSIDE);
        due(what + " y", land.deed(0, -1, 1), OUTSIDE);
        due(what + " y", land.deed(0, 32, 1), OUTSIDE);
        due(what + " year", land.deed(0, 0, 0), OUTSIDE);
        due(what + " year", land.deed(0, 0, 1000), OUTSIDE);
        due(what + " all", land.deed(32, 32, 1000), OUTSIDE);
    }

    private static void orderOfDeed() {
        dueOutside("5 OUTSIDE, FAULT", new LandDeeds());
        dueOutside("5 OUTSIDE, FAULT", telling("n1;n1;n1;"));
        dueOutside("5 OUTSIDE, NO, AWRY", telling(TOO_LOOSE));
        dueOutside("5 OUTSIDE, AWRY", telling(CROSSING));
        dueOutside("5 OUTSIDE", telling(UNIT));
        due("5 NO, AWRY", telling(TOO_LOOSE).deed(9, 9, 9), NO);
        LandDeeds loose = telling(TOO_LOOSE);
        loose.loose(5);
        due("5 AWRY without NO", loose.deed(9, 9, 9), AWRY);
        due("5 AWRY", telling(CROSSING).deed(9, 9, 9), AWRY);
    }

    private static void orderOfDeedWhenFull() {
        LandDeeds land = landOf(6);
        dueOutside("5 OUTSIDE, FAULT, FULL", land);
        due("5 FAULT, FULL", land.deed(9, 9, 9), FAULT);
        tell(land, UNIT);
        dueOutside("5 OUTSIDE, FULL", land);
        due("5 FULL", land.deed(9, 9, 9), FULL);
        due("5 AWRY, FULL: a corner off the land", land.deed(31, 9, 9), AWRY);
        due("5 AWRY, FULL", deedOf(land, CROSSING, 9, 9, 9), AWRY);
        dueOutside("5 OUTSIDE, AWRY, FULL", land);
        due("5 NO, AWRY, FULL", deedOf(land, TOO_LOOSE, 9, 9, 9), NO);
        dueOutside("5 OUTSIDE, NO, AWRY, FULL", land);
        // This one would stand, were LOOSE greater.
        due("5 NO, FULL", deedOf(land, "n5;e5;s5", 9, 9, 9), NO);
        land.loose(5);
        due("5 FULL alone", land.deed(9, 9, 9), FULL);
    }

    private static void orderOfMiss() {
        for (int what : new int[] {LOWEST, -1, 3, HIGHEST}) {
            due("6 FAULT, OUTSIDE", new LandDeeds().miss(what), FAULT);
            due("6 FAULT, OUTSIDE", telling("n1;n1;n1;").miss(what), FAULT);
            due("6 OUTSIDE", telling("n1;n1;n1").miss(what), OUTSIDE);
        }
    }

    private static void orderOfYear() {
        for (int year : new int[] {LOWEST, 0, 1000, HIGHEST}) {
            due("9 UNKNOWN, OUTSIDE", unit().year(1, year), UNKNOWN);
            due("9 UNKNOWN, OUTSIDE", unit().year(-1, year), UNKNOWN);
            due("9 OUTSIDE", unit().year(0, year), OUTSIDE);
        }
    }

    private static void orderOfOnePlot() {
        for (int plot : new int[] {-1, 1}) {
            LandDeeds land = unit();
            due("10 UNKNOWN, OUTSIDE", land.about(plot, -1), UNKNOWN);
            due("10 UNKNOWN, OUTSIDE", land.about(plot, 7), UNKNOWN);
            due("11 UNKNOWN, OUTSIDE", land.corner(plot, 0, -1), UNKNOWN);
            due("11 UNKNOWN, OUTSIDE", land.corner(plot, 0, 2), UNKNOWN);
            due("11 UNKNOWN, no such corner", land.corner(plot, -1, 0), UNKNOWN);
            due("11 UNKNOWN, all", land.corner(plot, 9, 2), UNKNOWN);
            due("12 UNKNOWN, OUTSIDE in x", land.lies(plot, 32, 0), UNKNOWN);
            due("12 UNKNOWN, OUTSIDE in y", land.lies(plot, 0, -1), UNKNOWN);
            due("13 UNKNOWN, no such sign", land.sign(plot, -2), UNKNOWN);
            due("13 UNKNOWN, no such sign", land.sign(plot, 99), UNKNOWN);
            due("14 UNKNOWN, OUTSIDE in x", land.west(plot, 32, 0), UNKNOWN);
            due("14 UNKNOWN, OUTSIDE in x", land.west(plot, -1, 1), UNKNOWN);
            due("14 UNKNOWN, OUTSIDE in what", land.west(plot, 0, 2), UNKNOWN);
            due("15 UNKNOWN, OUTSIDE", land.line(plot, 0), UNKNOWN);
            due("15 UNKNOWN, OUTSIDE", land.line(plot, 2001), UNKNOWN);
        }
    }

    private static void orderOfCommon() {
        LandDeeds land = unit();
        for (int what = -1; what <= 3; what++) {
            due("16 UNKNOWN, the one", land.common(1, 0, what), UNKNOWN);
            due("16 UNKNOWN, the one", land.common(-1, 0, what), UNKNOWN);
            due("16 UNKNOWN, the other", land.common(0, 1, what), UNKNOWN);
            due("16 UNKNOWN, the other", land.common(0, -1, what), UNKNOWN);
            due("16 UNKNOWN, both", land.common(1, -1, what), UNKNOWN);
        }
        due("16 OUTSIDE", land.common(0, 0, 3), OUTSIDE);
        due("16 OUTSIDE", land.common(0, 0, -1), OUTSIDE);
    }

    private static void orderOfRestore() {
        // In an image that there is not nothing was kept either.
        for (int k : new int[] {LOWEST, -1, 2, 32, HIGHEST}) {
            due("21 OUTSIDE, STATE", new LandDeeds().restore(k), OUTSIDE);
            due("21 OUTSIDE", kept().restore(k), OUTSIDE);
        }
        due("21 STATE", new LandDeeds().restore(0), STATE);
        due("21 STATE", new LandDeeds().restore(1), STATE);
        LandDeeds first = new LandDeeds();
        first.image(0);
        due("21 STATE of the second alone", first.restore(1), STATE);
        due("21 the first is kept", first.restore(0), 1);
        LandDeeds second = new LandDeeds();
        second.image(1);
        due("21 STATE of the first alone", second.restore(0), STATE);
        due("21 the second is kept", second.restore(1), 1);
    }

    private static void noneIsNoRefusal() {
        // NONE is an answer: what is refused is refused first.
        due("11 OUTSIDE, no such corner", unit().corner(0, 4, 2), OUTSIDE);
        due("11 OUTSIDE, no such corner", unit().corner(0, -1, -1), OUTSIDE);
        due("17 OUTSIDE, nobody's", new LandDeeds().right(32, 31), OUTSIDE);
        due("18 OUTSIDE, no gap", landWith(WHOLE_LAND, 0, 0, 1).gap(5), OUTSIDE);
        due("15 OUTSIDE, no line", unit().line(0, 2001), OUTSIDE);
    }

    // ---- "What is refused changes nothing."

    private static long make(LandDeeds land, String call, int... n) {
        switch (call) {
            case "say": return land.say(n[0]);
            case "wipe": return land.wipe();
            case "fault": return land.fault();
            case "deed": return land.deed(n[0], n[1], n[2]);
            case "miss": return land.miss(n[0]);
            case "loose": return land.loose(n[0]);
            case "drop": return land.drop(n[0]);
            case "year": return land.year(n[0], n[1]);
            case "about": return land.about(n[0], n[1]);
            case "corner": return land.corner(n[0], n[1], n[2]);
            case "lies": return land.lies(n[0], n[1], n[2]);
            case "sign": return land.sign(n[0], n[1]);
            case "west": return land.west(n[0], n[1], n[2]);
            case "line": return land.line(n[0], n[1]);
            case "common": return land.common(n[0], n[1], n[2]);
            case "right": return land.right(n[0], n[1]);
            case "gap": return land.gap(n[0]);
            case "count": return land.count(n[0]);
            case "image": return land.image(n[0]);
            case "restore": return land.restore(n[0]);
            default: throw new IllegalArgumentException(call);
        }
    }

    private static final int[] PLOTS = {LOWEST, -1, 0, 5, 6, HIGHEST}, PLACES = {-1, 0, 5, 31, 32},
        YEARS = {0, 1, 999, 1000}, TWO = {-1, 0, 1, 2};

    /** Each call with the numbers that it is made with, all with all. */
    private static Map<String, int[][]> numbers() {
        Map<String, int[][]> numbers = new LinkedHashMap<>();
        numbers.put("say", new int[][] {{LOWEST, 32, 33, 'n', 126, 127, HIGHEST}});
        numbers.put("wipe", new int[][] {});
        numbers.put("fault", new int[][] {});
        numbers.put("deed", new int[][] {PLACES, PLACES, YEARS});
        numbers.put("miss", new int[][] {{-1, 0, 1, 2, 3}});
        numbers.put("loose", new int[][] {{-1, 0, 20, 21}});
        numbers.put("drop", new int[][] {PLOTS});
        numbers.put("year", new int[][] {PLOTS, YEARS});
        numbers.put("about", new int[][] {PLOTS, {-1, 0, 1, 2, 3, 4, 5, 6, 7}});
        numbers.put("corner", new int[][] {PLOTS, {LOWEST, -1, 0, 2, 3, 4, 8, HIGHEST}, TWO});
        numbers.put("lies", new int[][] {PLOTS, PLACES, PLACES});
        numbers.put("sign", new int[][] {PLOTS, {LOWEST, -2, -1, 0, 10, 11, 55, HIGHEST}});
        numbers.put("west", new int[][] {PLOTS, PLACES, TWO});
        numbers.put("line", new int[][] {PLOTS, {0, 1, 2, 3, 2000, 2001}});
        numbers.put("common", new int[][] {PLOTS, PLOTS, {-1, 0, 1, 2, 3}});
        numbers.put("right", new int[][] {PLACES, PLACES});
        numbers.put("gap", new int[][] {{-1, 0, 1, 2, 3, 4, 5}});
        numbers.put("count", new int[][] {{-1, 0, 1, 2, 3, 4, 5}});
        numbers.put("image", new int[][] {TWO});
        numbers.put("restore", new int[][] {TWO});
        return numbers;
    }

    private static List<int[]> allWithAll(int[][] choices) {
        List<int[]> all = new ArrayList<>();
        all.add(new int[0]);
        for (int[] choice : choices) {
            List<int[]> longer = new ArrayList<>();
            for (int[] some : all) {
                for (int number : choice) {
                    int[] more = Arrays.copyOf(some, some.length + 1);
                    more[some.length] = number;
                    longer.add(more);
                }
            }
            all = longer;
        }
        return all;
    }

    /** The negative answers that the document names, call by call. */
    private static Map<String, Set<Long>> named() {
        Map<String, Set<Long>> named = new TreeMap<>();
        name(named, "say", OUTSIDE, FULL);
        name(named, "wipe");
        name(named, "fault", NONE);
        name(named, "deed", OUTSIDE, FAULT, NO, AWRY, FULL);
        name(named, "miss", FAULT, OUTSIDE);
        name(named, "loose", OUTSIDE);
        name(named, "drop", UNKNOWN);
        name(named, "year", UNKNOWN, OUTSIDE);
        name(named, "about", UNKNOWN, OUTSIDE);
        name(named, "corner", NONE, UNKNOWN, OUTSIDE);
        name(named, "lies", UNKNOWN, OUTSIDE);
        name(named, "sign", NONE, UNKNOWN);
        name(named, "west", UNKNOWN, OUTSIDE);
        name(named, "line", NONE, UNKNOWN, OUTSIDE);
        name(named, "common", UNKNOWN, OUTSIDE);
        name(named, "right", NONE, OUTSIDE);
        name(named, "gap", NONE, OUTSIDE);
        name(named, "count", OUTSIDE);
        name(named, "image", OUTSIDE);
        name(named, "restore", OUTSIDE, STATE);
        return named;
    }

    private static void name(Map<String, Set<Long>> named, String call, int... answers) {
        Set<Long> all = new TreeSet<>();
        for (int answer : answers) {
            all.add((long) answer);
        }
        named.put(call, all);
    }

    private static LandDeeds sixWithImages(String text, boolean both) {
        LandDeeds land = unit();
        land.image(0);
        land.loose(7);
        for (int i = 1; i < 6; i++) {
            deedOf(land, "e4;n4;w4;s4", 3 * i, 2 * i, 100 - i % 3);
        }
        if (both) {
            land.image(1);
            land.loose(4);
        }
        tell(land, text);
        return land;
    }

    private static Map<String, Supplier<LandDeeds>> states() {
        Map<String, Supplier<LandDeeds>> states = new LinkedHashMap<>();
        states.put("new", LandDeeds::new);
        states.put("a text begun", () -> telling("n1;e2;"));
        states.put("a text", () -> telling(UNIT));
        states.put("a text that misses", () -> telling(TOO_LOOSE));
        states.put("a text that crosses", () -> telling(CROSSING));
        states.put("48 signs", () -> telling("n31e31;n31e31;n31e31;n31e31;n31e31;n31e31;n31e31"));
        states.put("a plot", RefusalsTest::unit);
        states.put("all land held", () -> landWith(WHOLE_LAND, 0, 0, 1));
        states.put("six plots, an image", () -> sixWithImages(UNIT, false));
        states.put("six plots, two images", () -> sixWithImages(CROSSING, true));
        states.put("six plots, a text that misses", () -> sixWithImages(TOO_LOOSE, true));
        return states;
    }

    private static void askPlots(LandDeeds land, List<Long> answers) {
        for (int what = 0; what < 5; what++) {
            answers.add((long) land.count(what));
        }
        for (int plot = 0; plot < 7; plot++) {
            answers.add((long) land.about(plot, 0));
            answers.add((long) land.about(plot, 2));
            answers.add((long) land.about(plot, 6));
            answers.add((long) land.corner(plot, 0, 0));
            answers.add((long) land.sign(plot, -1));
            answers.add(land.west(plot, 9, 0));
        }
    }

    /** All that one can come to know of the object; the text by the plot that it brings once there is room. */
    private static List<Long> ask(LandDeeds land) {
        List<Long> answers = new ArrayList<>();
        askPlots(land, answers);
        for (int what = 0; what < 5; what++) {
            answers.add((long) land.gap(what));
        }
        answers.add((long) land.fault());
        for (int what = 0; what < 3; what++) {
            answers.add((long) land.miss(what));
        }
        answers.add((long) land.deed(20, 20, 500));
        answers.add((long) land.drop(0));
        answers.add((long) land.deed(20, 20, 500));
        answers.add((long) land.sign(Math.max(0, land.count(0) - 1), 1));
        for (int image = 0; image < 2; image++) {
            answers.add((long) land.restore(image));
            askPlots(land, answers);
        }
        answers.add((long) land.say('n'));
        return answers;
    }

    private static void refusedCallsChangeNothing() {
        Set<String> changing = Set.of("say", "wipe", "deed", "loose", "drop", "year", "image", "restore");
        Map<String, Set<Long>> seen = new TreeMap<>();
        Map<String, int[][]> numbers = numbers();
        for (Map.Entry<String, Supplier<LandDeeds>> state : states().entrySet()) {
            List<Long> before = ask(state.getValue().get());
            for (String call : numbers.keySet()) {
                Set<Long> refusals = seen.computeIfAbsent(call, key -> new TreeSet<>());
                for (int[] some : allWithAll(numbers.get(call))) {
                    LandDeeds land = state.getValue().get();
                    long answer = make(land, call, some);
                    if (answer < 0) {
                        refusals.add(answer);
                    }
                    if (answer < 0 || !changing.contains(call)) {
                        String what = state.getKey() + ": " + call + Arrays.toString(some) + " changes nothing";
                        due(what, ask(land).equals(before) ? 1 : 0, 1);
                    }
                }
            }
        }
        dueText("the refusals of all calls", seen.toString(), named().toString());
    }
}
