import java.math.BigInteger;
import java.util.ArrayList;
import java.util.List;
import java.util.Random;
import java.util.regex.Matcher;
import java.util.regex.Pattern;

/** Long mixed runs, each call answered by the class and by a slow model that goes other ways to the answers. */
public final class ModelTest {
    // A deed that is begun is told to its end, some calls beyond CALLS: all within the 512 that are promised.
    private static final int RUNS = 1500, CALLS = 500;

    private static int wrong = 0;
    private static final int[] plotsSeen = new int[7];
    private static int stood = 0;

    public static void main(String[] args) {
        for (int run = 0; run < RUNS && wrong == 0; run++) {
            new Run(run).go();
        }
        System.out.println("deeds that stood: " + stood + "; calls by number of plots: " + java.util.Arrays.toString(plotsSeen));
        if (stood < RUNS * 4 || plotsSeen[6] < RUNS) {
            System.out.println("too few plots to tell anything");
            wrong++;
        }
        System.out.println(wrong == 0 ? "class and model agree" : "class and model differ");
        if (wrong != 0) {
            System.exit(1);
        }
    }

    // ---- a run of calls

    private static final class Run {
        final int number;
        final Random random;
        final LandDeeds land = new LandDeeds();
        final Model model = new Model();
        final StringBuilder told = new StringBuilder();
        int calls = 0;

        Run(int number) {
            this.number = number;
            this.random = new Random(7000 + number);
        }

        void go() {
            while (calls < CALLS && wrong == 0) {
                if (random.nextInt(12) == 0) {
                    tellDeed();
                } else {
                    oneCall();
                }
            }
        }

        void same(String call, long got, long want) {
            calls++;
            plotsSeen[model.plots.size()]++;
            told.append(call).append(" -> ").append(got).append('\n');
            if (got != want) {
                wrong++;
                System.out.println("run " + number + "\n" + told + "the model says " + want);
            }
        }

        void tellDeed() {
            if (random.nextInt(8) != 0) {
                same("wipe()", land.wipe(), model.wipe());
            }
            int[][] shape = shape();
            String text = textOf(shape);
            if (random.nextInt(8) == 0) {
                text = spoil(text);
            }
            for (int i = 0; i < text.length() && calls < CALLS; i++) {
                int sign = text.charAt(i);
                same("say(" + sign + ")", land.say(sign), model.say(sign));
            }
            same("fault()", land.fault(), model.fault());
            for (int what = 0; what < 3; what++) {
                same("miss(" + what + ")", land.miss(what), model.miss(what));
            }
            int year = random.nextInt(10) == 0 ? some(-1, 1001) : some(1, 6);
            enter(shape[0][0], shape[1][0], year);
        }

        void enter(int x, int y, int year) {
            int got = land.deed(x, y, year);
            if (got >= 0) {
                stood++;
            }
            same("deed(" + x + ", " + y + ", " + year + ")", got, model.deed(x, y, year));
        }

        int some(int from, int to) {
            return from + random.nextInt(to - from + 1);
        }

        int odd() {
            int[] odd = {Integer.MIN_VALUE, Integer.MAX_VALUE, -1, -2, 7, 32, 100, 1 << 16, -32};
            return odd[random.nextInt(odd.length)];
        }

        int mostly(int from, int to) {
            return random.nextInt(25) == 0 ? odd() : some(from, to);
        }

        int plot() {
            return model.plots.isEmpty() || random.nextInt(25) == 0 ? mostly(-1, 6) : some(0, model.plots.size() - 1);
        }

        void oneCall() {
            int a = plot(), x = mostly(0, 31), y = mostly(0, 31);
            switch (random.nextInt(22)) {
                case 0: { int s = mostly(30, 128); same("say(" + s + ")", land.say(s), model.say(s)); break; }
                case 1: same("fault()", land.fault(), model.fault()); break;
                case 2: enter(x, y, mostly(1, 999)); break;
                case 3: { int w = mostly(-1, 3); same("miss(" + w + ")", land.miss(w), model.miss(w)); break; }
                case 4: { int n = mostly(0, 20); same("loose(" + n + ")", land.loose(n), model.loose(n)); break; }
                case 5: if (random.nextInt(3) == 0) { same("drop(" + a + ")", land.drop(a), model.drop(a)); } break;
                case 6: { int n = mostly(0, 6); same("year(" + a + ", " + n + ")", land.year(a, n), model.year(a, n)); break; }
                case 7: case 8: { int w = mostly(0, 6); same("about(" + a + ", " + w + ")", land.about(a, w), model.about(a, w)); break; }
                case 9: { int k = mostly(-1, 8), w = mostly(0, 1); same("corner(" + a + ", " + k + ", " + w + ")", land.corner(a, k, w), model.corner(a, k, w)); break; }
                case 10: same("lies(" + a + ", " + x + ", " + y + ")", land.lies(a, x, y), model.lies(a, x, y)); break;
                case 11: { int k = mostly(-2, 56); same("sign(" + a + ", " + k + ")", land.sign(a, k), model.sign(a, k)); break; }
                case 12: case 13: { int w = mostly(0, 1); same("west(" + a + ", " + x + ", " + w + ")", land.west(a, x, w), model.west(a, x, w)); break; }
                case 14: { int w = random.nextInt(3) == 0 ? mostly(-1, 2002) : some(1, 300); same("line(" + a + ", " + w + ")", land.line(a, w), model.line(a, w)); break; }
                case 15: { int b = plot(), w = mostly(0, 2); same("common(" + a + ", " + b + ", " + w + ")", land.common(a, b, w), model.common(a, b, w)); break; }
                case 16: same("right(" + x + ", " + y + ")", land.right(x, y), model.right(x, y)); break;
                case 17: { int w = mostly(0, 4); same("gap(" + w + ")", land.gap(w), model.gap(w)); break; }
                case 18: { int w = mostly(0, 4); same("count(" + w + ")", land.count(w), model.count(w)); break; }
                case 19: { int k = mostly(0, 1); same("image(" + k + ")", land.image(k), model.image(k)); break; }
                case 20: if (random.nextInt(3) == 0) { int k = mostly(0, 1); same("restore(" + k + ")", land.restore(k), model.restore(k)); } break;
                default: if (random.nextInt(6) == 0) { same("wipe()", land.wipe(), model.wipe()); } break;
            }
        }

        /** Corners, most of the time in the order in which one sees them from some place, so that they stand. */
        int[][] shape() {
            int n = some(3, 8);
            int[][] all = new int[2][n];
            int reach = some(2, 15);
            int cx = some(reach, 31 - reach), cy = some(reach, 31 - reach);
            List<int[]> corners = new ArrayList<>();
            for (int i = 0; i < n; i++) {
                corners.add(new int[] {some(cx - reach, cx + reach), some(cy - reach, cy + reach)});
            }
            if (random.nextInt(6) != 0) {
                int turn = random.nextBoolean() ? 1 : -1;
                corners.sort((p, q) -> turn * Double.compare(Math.atan2(p[1] - cy, p[0] - cx), Math.atan2(q[1] - cy, q[0] - cx)));
            }
            for (int i = 0; i < n; i++) {
                all[0][i] = corners.get(i)[0];
                all[1][i] = corners.get(i)[1];
            }
            return all;
        }

        String textOf(int[][] shape) {
            int n = shape[0].length;
            StringBuilder text = new StringBuilder();
            for (int i = 0; i < n; i++) {
                int dx = shape[0][(i + 1) % n] - shape[0][i] + slip(), dy = shape[1][(i + 1) % n] - shape[1][i] + slip();
                if (dx == 0 && dy == 0) {
                    dx = 1;
                }
                text.append(i > 0 ? ";" : "");
                text.append(dy > 0 ? "n" + dy : dy < 0 ? "s" + -dy : "");
                text.append(dx > 0 ? "e" + dx : dx < 0 ? "w" + -dx : "");
            }
            return text.toString();
        }

        int slip() {
            return random.nextInt(8) == 0 ? some(-2, 2) : 0;
        }

        String spoil(String text) {
            String signs = "nsew;0123456789x";
            int at = random.nextInt(text.length());
            String sign = String.valueOf(signs.charAt(random.nextInt(signs.length())));
            switch (random.nextInt(3)) {
                case 0: return text.substring(0, at) + text.substring(at + 1);
                case 1: return text.substring(0, at) + sign + text.substring(at);
                default: return text.substring(0, at) + sign + text.substring(at + 1);
            }
        }
    }

    // ---- the model

    private static final class Land {
        int[] xs, ys;
        int year;
        int[][] lies;

        Land copy() {
            Land other = new Land();
            other.xs = xs;
            other.ys = ys;
            other.year = year;
            other.lies = lies;
            return other;
        }
    }

    private static final class Model {
        static final String NUMBER = "(?:[1-9]|[12][0-9]|3[01])";
        static final String CALL = "(?:[ns]" + NUMBER + "(?:[ew]" + NUMBER + ")?|[ew]" + NUMBER + ")";
        static final Pattern TEXT = Pattern.compile(CALL + "(?:;" + CALL + "){2,7}");
        static final Pattern LEG = Pattern.compile("([nsew])([0-9]+)");

        String text = "";
        int loose = 4;
        List<Land> plots = new ArrayList<>();
        final List<List<Land>> kept = new ArrayList<>(java.util.Arrays.asList(null, null));
        final int[] keptLoose = new int[2];

        int say(int sign) {
            if (sign < 33 || sign > 126) { return -2; }
            if (text.length() == 48) { return -4; }
            text += (char) sign;
            return text.length();
        }

        int wipe() {
            int before = text.length();
            text = "";
            return before;
        }

        int fault() {
            if (TEXT.matcher(text).matches()) { return -6; }
            for (int i = 0; i < text.length(); i++) {
                Matcher beginning = TEXT.matcher(text.substring(0, i + 1));
                if (!beginning.matches() && !beginning.hitEnd()) { return i; }
            }
            return text.length();
        }

        int[][] steps() {
            String[] calls = text.split(";");
            int[][] steps = new int[2][calls.length];
            for (int i = 0; i < calls.length; i++) {
                Matcher legs = LEG.matcher(calls[i]);
                while (legs.find()) {
                    int length = Integer.parseInt(legs.group(2));
                    char way = legs.group(1).charAt(0);
                    steps[way == 'e' || way == 'w' ? 0 : 1][i] = way == 'n' || way == 'e' ? length : -length;
                }
            }
            return steps;
        }

        static int sum(int[] steps, int upTo, boolean withoutSigns) {
            int all = 0;
            for (int i = 0; i < upTo; i++) { all += withoutSigns ? Math.abs(steps[i]) : steps[i]; }
            return all;
        }

        static int far(int[][] steps, int upTo) {
            return sum(steps[0], upTo, true) + sum(steps[1], upTo, true);
        }

        int miss(int what) {
            if (fault() != -6) { return -7; }
            if (what < 0 || what > 2) { return -2; }
            int[][] steps = steps();
            int n = steps[0].length;
            return what == 2 ? far(steps, n) : 1000 + sum(steps[what], n, false);
        }

        static int[] corners(int from, int[] along, int[][] steps) {
            int n = along.length;
            int[] corners = new int[n];
            for (int k = 0; k < n; k++) {
                BigInteger shared = BigInteger.valueOf(sum(along, n, false)).multiply(BigInteger.valueOf(far(steps, k)))
                    .divide(BigInteger.valueOf(far(steps, n)));
                corners[k] = from + sum(along, k, false) - shared.intValue();
            }
            return corners;
        }

        int deed(int x, int y, int year) {
            if (!post(x, y) || year < 1 || year > 999) { return -2; }
            if (fault() != -6) { return -7; }
            int[][] steps = steps();
            int n = steps[0].length;
            if (Math.abs(sum(steps[0], n, false)) + Math.abs(sum(steps[1], n, false)) > loose) { return -5; }
            Land land = new Land();
            land.xs = corners(x, steps[0], steps);
            land.ys = corners(y, steps[1], steps);
            land.year = year;
            if (!stands(land)) { return -8; }
            if (plots.size() == 6) { return -4; }
            land.lies = new int[32][32];
            for (int py = 0; py < 32; py++) {
                for (int px = 0; px < 32; px++) { land.lies[px][py] = liesIn(land, px, py); }
            }
            plots.add(land);
            text = "";
            return plots.size() - 1;
        }

        static boolean post(int x, int y) {
            return x >= 0 && x <= 31 && y >= 0 && y <= 31;
        }

        static boolean stands(Land land) {
            int n = land.xs.length;
            for (int i = 0; i < n; i++) {
                int j = (i + 1) % n;
                if (!post(land.xs[i], land.ys[i])) { return false; }
                if (land.xs[i] == land.xs[j] && land.ys[i] == land.ys[j]) { return false; }
            }
            for (int i = 0; i < n; i++) {
                for (int j = 0; j < n; j++) {
                    if (i != j && !mayBeTogether(land, i, j)) { return false; }
                }
            }
            return true;
        }

        /** Solves for where two sides meet, as shares of each. */
        static boolean mayBeTogether(Land land, int i, int j) {
            int n = land.xs.length;
            int i2 = (i + 1) % n, j2 = (j + 1) % n;
            boolean follow = i2 == j || j2 == i;
            long ax = land.xs[i], ay = land.ys[i], bx = land.xs[i2] - ax, by = land.ys[i2] - ay;
            long cx = land.xs[j], cy = land.ys[j], dx = land.xs[j2] - cx, dy = land.ys[j2] - cy;
            long det = bx * dy - by * dx;
            if (det != 0) {
                long t = (cx - ax) * dy - (cy - ay) * dx, u = (cx - ax) * by - (cy - ay) * bx;
                if (det < 0) { det = -det; t = -t; u = -u; }
                return t < 0 || t > det || u < 0 || u > det || follow;
            }
            if (bx * (cy - ay) - by * (cx - ax) != 0) { return true; }
            // On one line: compare along it.
            long from = (cx - ax) * bx + (cy - ay) * by, to = (cx + dx - ax) * bx + (cy + dy - ay) * by;
            long low = Math.max(0, Math.min(from, to)), high = Math.min(bx * bx + by * by, Math.max(from, to));
            return low > high || follow && low == high;
        }

        /** How often the sides go round the post. */
        static int liesIn(Land land, int x, int y) {
            int n = land.xs.length, rounds = 0;
            for (int i = 0; i < n; i++) {
                int j = (i + 1) % n;
                int ax = land.xs[i] - x, ay = land.ys[i] - y, bx = land.xs[j] - x, by = land.ys[j] - y;
                int cross = ax * by - ay * bx;
                if (cross == 0 && ax * bx + ay * by <= 0) { return 1; }
                // Only what passes north of the post counts.
                if (ax <= 0 && bx > 0 && cross < 0) { rounds--; }
                if (ax > 0 && bx <= 0 && cross > 0) { rounds++; }
            }
            return rounds != 0 ? 2 : 0;
        }

        int loose(int n) {
            if (n < 0 || n > 20) { return -2; }
            int before = loose;
            loose = n;
            return before;
        }

        boolean none(int plot) {
            return plot < 0 || plot >= plots.size();
        }

        int drop(int plot) {
            if (none(plot)) { return -1; }
            plots.remove(plot);
            return plots.size();
        }

        boolean older(int a, int b) {
            return plots.get(a).year * 10 + a < plots.get(b).year * 10 + b;
        }

        int year(int plot, int year) {
            if (none(plot)) { return -1; }
            if (year < 1 || year > 999) { return -2; }
            plots.get(plot).year = year;
            int older = 0;
            for (int i = 0; i < plots.size(); i++) { older += older(i, plot) ? 1 : 0; }
            return older;
        }

        int about(int plot, int what) {
            if (none(plot)) { return -1; }
            if (what < 0 || what > 6) { return -2; }
            Land land = plots.get(plot);
            int inside = 0, sides = 0, lost = 0;
            for (int y = 0; y < 32; y++) {
                for (int x = 0; x < 32; x++) {
                    int lies = land.lies[x][y];
                    inside += lies == 2 ? 1 : 0;
                    sides += lies == 1 ? 1 : 0;
                    lost += lies > 0 && right(x, y) != plot ? 1 : 0;
                }
            }
            // Pick's way to the area.
            int[] answers = {land.year, land.xs.length, 2 * inside + sides - 2, left(land), inside, sides, lost};
            return answers[what];
        }

        /** At the southmost corner, of these the westmost, the outline turns as it goes round as a whole. */
        static int left(Land land) {
            int n = land.xs.length, best = 0;
            for (int i = 1; i < n; i++) {
                if (land.ys[i] * 100 + land.xs[i] < land.ys[best] * 100 + land.xs[best]) { best = i; }
            }
            int before = (best + n - 1) % n, behind = (best + 1) % n;
            int ax = land.xs[best] - land.xs[before], ay = land.ys[best] - land.ys[before];
            int bx = land.xs[behind] - land.xs[best], by = land.ys[behind] - land.ys[best];
            return ax * by - ay * bx > 0 ? 1 : 0;
        }

        int corner(int plot, int k, int what) {
            if (none(plot)) { return -1; }
            if (what != 0 && what != 1) { return -2; }
            Land land = plots.get(plot);
            if (k < 0 || k >= land.xs.length) { return -6; }
            return (what == 0 ? land.xs : land.ys)[k];
        }

        int lies(int plot, int x, int y) {
            if (none(plot)) { return -1; }
            return post(x, y) ? plots.get(plot).lies[x][y] : -2;
        }

        int sign(int plot, int k) {
            if (none(plot)) { return -1; }
            Land land = plots.get(plot);
            int n = land.xs.length;
            List<String> calls = new ArrayList<>();
            for (int i = 0; i < n; i++) {
                int dx = land.xs[(i + 1) % n] - land.xs[i], dy = land.ys[(i + 1) % n] - land.ys[i];
                String northSouth = dy == 0 ? "" : (dy > 0 ? "n" : "s") + Math.abs(dy);
                calls.add(northSouth + (dx == 0 ? "" : (dx > 0 ? "e" : "w") + Math.abs(dx)));
            }
            String deed = String.join(";", calls);
            return k == -1 ? deed.length() : k < 0 || k >= deed.length() ? -6 : deed.charAt(k);
        }

        /** Cuts the outline at the line and goes round what is left, all in fractions over one lower number. */
        static BigInteger[] cutWest(Land land, int x) {
            BigInteger scale = BigInteger.ONE;
            for (int i = 2; i <= 31; i++) {
                BigInteger number = BigInteger.valueOf(i);
                scale = scale.divide(scale.gcd(number)).multiply(number);
            }
            List<BigInteger> xs = new ArrayList<>(), ys = new ArrayList<>();
            int n = land.xs.length;
            for (int i = 0; i < n; i++) {
                int j = (i + 1) % n;
                if (land.xs[i] <= x) {
                    xs.add(scale.multiply(BigInteger.valueOf(land.xs[i])));
                    ys.add(scale.multiply(BigInteger.valueOf(land.ys[i])));
                }
                if (land.xs[i] < x && land.xs[j] > x || land.xs[i] > x && land.xs[j] < x) {
                    BigInteger up = BigInteger.valueOf((land.ys[j] - land.ys[i]) * (x - land.xs[i]));
                    xs.add(scale.multiply(BigInteger.valueOf(x)));
                    ys.add(scale.multiply(BigInteger.valueOf(land.ys[i]))
                        .add(scale.multiply(up).divide(BigInteger.valueOf(land.xs[j] - land.xs[i]))));
                }
            }
            BigInteger twice = BigInteger.ZERO;
            for (int i = 0; i < xs.size(); i++) {
                int j = (i + 1) % xs.size();
                twice = twice.add(xs.get(i).multiply(ys.get(j))).subtract(xs.get(j).multiply(ys.get(i)));
            }
            BigInteger upper = twice.abs(), lower = scale.multiply(scale), shared = upper.gcd(lower);
            return new BigInteger[] {upper.divide(shared), lower.divide(shared)};
        }

        long west(int plot, int x, int what) {
            if (none(plot)) { return -1; }
            if (!post(x, 0) || what != 0 && what != 1) { return -2; }
            return cutWest(plots.get(plot), x)[what].longValueExact();
        }

        int line(int plot, int wish) {
            if (none(plot)) { return -1; }
            if (wish < 1 || wish > 2000) { return -2; }
            int least = -6;
            for (int x = 31; x >= 0; x--) {
                BigInteger[] area = cutWest(plots.get(plot), x);
                if (area[0].compareTo(area[1].multiply(BigInteger.valueOf(wish))) >= 0) { least = x; }
            }
            return least;
        }

        int common(int one, int other, int what) {
            if (none(one) || none(other)) { return -1; }
            if (what < 0 || what > 2) { return -2; }
            int posts = 0;
            for (int x = 0; x < 32; x++) {
                for (int y = 0; y < 32; y++) {
                    int a = plots.get(one).lies[x][y], b = plots.get(other).lies[x][y];
                    posts += (what == 0 ? a == 2 && b == 2 : what == 1 ? a == 1 && b == 1 : a > 0 && b > 0) ? 1 : 0;
                }
            }
            return posts;
        }

        int holders(int x, int y) {
            int holders = 0;
            for (Land land : plots) { holders += land.lies[x][y] > 0 ? 1 : 0; }
            return holders;
        }

        int right(int x, int y) {
            if (!post(x, y)) { return -2; }
            int best = -6;
            for (int i = plots.size() - 1; i >= 0; i--) {
                if (plots.get(i).lies[x][y] > 0 && (best == -6 || plots.get(i).year <= plots.get(best).year)) { best = i; }
            }
            return best;
        }

        /** Each post takes the least name among its neighbours' until nothing changes. */
        int gap(int what) {
            if (what < 0 || what > 4) { return -2; }
            int[] names = new int[1024], sizes = new int[1024];
            for (int i = 0; i < 1024; i++) { names[i] = holders(i % 32, i / 32) == 0 ? i : -1; }
            for (boolean changed = true; changed;) {
                changed = false;
                for (int i = 0; i < 1024; i++) {
                    if (i % 32 < 31) { changed |= join(names, i, i + 1); }
                    if (i < 992) { changed |= join(names, i, i + 32); }
                }
            }
            int posts = 0, gaps = 0, greatest = 0, first = -1;
            for (int i = 0; i < 1024; i++) {
                if (names[i] >= 0) { sizes[names[i]]++; posts++; }
            }
            for (int i = 1023; i >= 0; i--) {
                gaps += sizes[i] > 0 ? 1 : 0;
                if (sizes[i] > 0 && sizes[i] >= greatest) { greatest = sizes[i]; first = i; }
            }
            int[] answers = {posts, gaps, greatest, first < 0 ? -6 : first % 32, first < 0 ? -6 : first / 32};
            return answers[what];
        }

        static boolean join(int[] names, int i, int j) {
            if (names[i] < 0 || names[j] < 0 || names[i] == names[j]) { return false; }
            names[i] = names[j] = Math.min(names[i], names[j]);
            return true;
        }

        int count(int what) {
            if (what < 0 || what > 4) { return -2; }
            int disputed = 0;
            for (int i = 0; i < 1024; i++) { disputed += holders(i % 32, i / 32) > 1 ? 1 : 0; }
            int images = (kept.get(0) == null ? 0 : 1) + (kept.get(1) == null ? 0 : 2);
            int[] answers = {plots.size(), text.length(), loose, disputed, images};
            return answers[what];
        }

        static List<Land> copies(List<Land> plots) {
            List<Land> copies = new ArrayList<>();
            for (Land land : plots) { copies.add(land.copy()); }
            return copies;
        }

        int image(int k) {
            if (k != 0 && k != 1) { return -2; }
            kept.set(k, copies(plots));
            keptLoose[k] = loose;
            return 1;
        }

        int restore(int k) {
            if (k != 0 && k != 1) { return -2; }
            if (kept.get(k) == null) { return -3; }
            plots = copies(kept.get(k));
            loose = keptLoose[k];
            return 1;
        }
    }
}
