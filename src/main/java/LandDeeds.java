/** Plots of land, as deeds call them out from post to post. */
public final class LandDeeds {
    public static final int UNKNOWN = -1, OUTSIDE = -2, STATE = -3, FULL = -4, NO = -5, NONE = -6, FAULT = -7, AWRY = -8;

    private static final int POSTS_A_ROW = 32;
    private static final int MOST_SIGNS = 48;
    private static final int FEWEST_CALLS = 3;
    private static final int MOST_CALLS = 8;
    private static final int GREATEST_NUMBER = 31;
    private static final int MOST_PLOTS = 6;
    private static final int LAST_YEAR = 999;
    private static final int FIRST_LOOSE = 4;
    private static final int MOST_LOOSE = 20;
    private static final int MOST_WISH = 2000;
    private static final int MISS_BASE = 1000;
    // Euclid's way takes fewer than 100 steps with any two longs.
    private static final int MOST_DIVISIONS = 100;

    private final Text text = new Text();
    private final Estate estate = new Estate();
    private final Estate firstImage = new Estate();
    private final Estate secondImage = new Estate();
    private final Wastes wastes = new Wastes();
    private final Ratio area = new Ratio();
    private int keptImages;

    public LandDeeds() {
        estate.loose = FIRST_LOOSE;
    }

    // ---- 1 deeds

    public int say(int sign) {
        if (sign < 33 || sign > 126) {
            return OUTSIDE;
        }
        return text.append(sign) ? text.length : FULL;
    }

    public int wipe() {
        return text.clear();
    }

    public int fault() {
        return text.read();
    }

    public int deed(int x, int y, int year) {
        if (!isPost(x, y) || !isYear(year)) {
            return OUTSIDE;
        }
        if (text.read() != NONE) {
            return FAULT;
        }
        if (Math.abs(text.missed(text.east)) + Math.abs(text.missed(text.north)) > estate.loose) {
            return NO;
        }
        Outline outline = new Outline(text.cornersFrom(x, text.east), text.cornersFrom(y, text.north));
        if (!outline.stands()) {
            return AWRY;
        }
        if (estate.size >= MOST_PLOTS) {
            return FULL;
        }
        text.clear();
        return estate.add(Plot.of(outline), year);
    }

    public int miss(int what) {
        if (text.read() != NONE) {
            return FAULT;
        }
        switch (what) {
            case 0:
                return MISS_BASE + text.missed(text.east);
            case 1:
                return MISS_BASE + text.missed(text.north);
            case 2:
                return text.far();
            default:
                return OUTSIDE;
        }
    }

    public int loose(int n) {
        if (n < 0 || n > MOST_LOOSE) {
            return OUTSIDE;
        }
        int before = estate.loose;
        estate.loose = n;
        return before;
    }

    public int drop(int plot) {
        if (!estate.has(plot)) {
            return UNKNOWN;
        }
        estate.remove(plot);
        return estate.size;
    }

    public int year(int plot, int year) {
        if (!estate.has(plot)) {
            return UNKNOWN;
        }
        if (!isYear(year)) {
            return OUTSIDE;
        }
        estate.setYear(plot, year);
        return estate.howManyOlder(plot);
    }

    // ---- 2 one plot

    public int about(int plot, int what) {
        Plot asked = estate.plotAt(plot);
        if (asked == null) {
            return UNKNOWN;
        }
        switch (what) {
            case 0:
                return estate.yearOf(plot);
            case 1:
                return asked.outline.corners;
            case 2:
                return Math.abs(asked.outline.twiceSignedArea());
            case 3:
                return asked.outline.twiceSignedArea() > 0 ? 1 : 0;
            case 4:
                return asked.howManyInside();
            case 5:
                return asked.howManyOnSides();
            case 6:
                return estate.howManyLost(plot);
            default:
                return OUTSIDE;
        }
    }

    public int corner(int plot, int k, int what) {
        Plot asked = estate.plotAt(plot);
        if (asked == null) {
            return UNKNOWN;
        }
        if (what < 0 || what > 1) {
            return OUTSIDE;
        }
        if (k < 0 || k >= asked.outline.corners) {
            return NONE;
        }
        return what == 0 ? asked.outline.xs[k] : asked.outline.ys[k];
    }

    public int lies(int plot, int x, int y) {
        Plot asked = estate.plotAt(plot);
        if (asked == null) {
            return UNKNOWN;
        }
        if (!isPost(x, y)) {
            return OUTSIDE;
        }
        if (isIn(asked.sides[y], x)) {
            return 1;
        }
        return isIn(asked.inside[y], x) ? 2 : 0;
    }

    public int sign(int plot, int k) {
        Plot asked = estate.plotAt(plot);
        if (asked == null) {
            return UNKNOWN;
        }
        int signs = asked.written.length();
        if (k == -1) {
            return signs;
        }
        return k >= 0 && k < signs ? asked.written.charAt(k) : NONE;
    }

    public long west(int plot, int x, int what) {
        Plot asked = estate.plotAt(plot);
        if (asked == null) {
            return UNKNOWN;
        }
        if (!isPlace(x) || what < 0 || what > 1) {
            return OUTSIDE;
        }
        asked.outline.measureWest(x, area);
        return what == 0 ? area.upper : area.lower;
    }

    public int line(int plot, int wish) {
        Plot asked = estate.plotAt(plot);
        if (asked == null) {
            return UNKNOWN;
        }
        if (wish < 1 || wish > MOST_WISH) {
            return OUTSIDE;
        }
        for (int x = 0; x < POSTS_A_ROW; x++) {
            asked.outline.measureWest(x, area);
            if (area.upper >= wish * area.lower) {
                return x;
            }
        }
        return NONE;
    }

    // ---- 3 all plots

    public int common(int one, int other, int what) {
        Plot a = estate.plotAt(one);
        Plot b = estate.plotAt(other);
        if (a == null || b == null) {
            return UNKNOWN;
        }
        switch (what) {
            case 0:
                return howManyInBoth(a.inside, b.inside);
            case 1:
                return howManyInBoth(a.sides, b.sides);
            case 2:
                return howManyInBoth(a.held, b.held);
            default:
                return OUTSIDE;
        }
    }

    public int right(int x, int y) {
        if (!isPost(x, y)) {
            return OUTSIDE;
        }
        return estate.oldestThatHolds(x, y);
    }

    public int gap(int what) {
        if (what < 0 || what > 4) {
            return OUTSIDE;
        }
        wastes.survey(estate);
        switch (what) {
            case 0:
                return wastes.posts;
            case 1:
                return wastes.gaps;
            case 2:
                return wastes.greatest;
            case 3:
                return wastes.firstX;
            default:
                return wastes.firstY;
        }
    }

    public int count(int what) {
        switch (what) {
            case 0:
                return estate.size;
            case 1:
                return text.length;
            case 2:
                return estate.loose;
            case 3:
                return estate.howManyDisputed();
            case 4:
                return keptImages;
            default:
                return OUTSIDE;
        }
    }

    // ---- 4 images

    public int image(int k) {
        if (k < 0 || k > 1) {
            return OUTSIDE;
        }
        imageAt(k).become(estate);
        keptImages |= 1 << k;
        return 1;
    }

    public int restore(int k) {
        if (k < 0 || k > 1) {
            return OUTSIDE;
        }
        if ((keptImages & 1 << k) == 0) {
            return STATE;
        }
        estate.become(imageAt(k));
        return 1;
    }

    private Estate imageAt(int k) {
        return k == 0 ? firstImage : secondImage;
    }

    private static boolean isPlace(int along) {
        return along >= 0 && along < POSTS_A_ROW;
    }

    private static boolean isPost(int x, int y) {
        return isPlace(x) && isPlace(y);
    }

    private static boolean isYear(int year) {
        return year >= 1 && year <= LAST_YEAR;
    }

    /** A row of posts is one int: the bit x stands for the post at x. */
    private static boolean isIn(int row, int x) {
        return (row >>> x & 1) == 1;
    }

    private static int howManyInBoth(int[] rows, int[] others) {
        int posts = 0;
        for (int y = 0; y < rows.length && y < others.length; y++) {
            posts += Integer.bitCount(rows[y] & others[y]);
        }
        return posts;
    }

    private static long greatestDivisor(long one, long other) {
        long divisor = one;
        long rest = other;
        for (int i = 0; i < MOST_DIVISIONS && rest != 0; i++) {
            long next = divisor % rest;
            divisor = rest;
            rest = next;
        }
        return divisor;
    }

    /** THE TEXT, and the calls that it tells as it was last read. */
    private static final class Text {
        // What the next sign belongs to: a new call, or one of a call's two legs.
        private static final int NEW_CALL = 0, NORTH_LEG = 1, EAST_LEG = 2;

        final int[] signs = new int[MOST_SIGNS];
        final int[] east = new int[MOST_CALLS];
        final int[] north = new int[MOST_CALLS];
        int length;
        int calls;
        int part;
        int toward;
        int number;

        boolean append(int sign) {
            if (length < 0 || length >= signs.length) {
                return false;
            }
            signs[length] = sign;
            length++;
            return true;
        }

        int clear() {
            int before = length;
            length = 0;
            return before;
        }

        /** Reads the calls: the FAULT, or NONE; only behind NONE the calls are of use. */
        int read() {
            calls = 0;
            part = NEW_CALL;
            for (int i = 0; i < length && i < signs.length; i++) {
                if (!takes(signs[i])) {
                    return i;
                }
            }
            boolean whole = part != NEW_CALL && number > 0 && calls >= FEWEST_CALLS;
            return whole ? NONE : length;
        }

        private boolean takes(int sign) {
            if (part == NEW_CALL) {
                return opensCall(sign);
            }
            if (sign >= '0' && sign <= '9') {
                return takesDigit(sign - '0');
            }
            if (number == 0) {
                return false;
            }
            if (part == NORTH_LEG && isEastOrWest(sign)) {
                openLeg(EAST_LEG, sign);
                return true;
            }
            if (sign == ';' && calls < MOST_CALLS) {
                part = NEW_CALL;
                return true;
            }
            return false;
        }

        private boolean opensCall(int sign) {
            boolean northOrSouth = sign == 'n' || sign == 's';
            if (!northOrSouth && !isEastOrWest(sign) || calls < 0 || calls >= MOST_CALLS) {
                return false;
            }
            north[calls] = 0;
            east[calls] = 0;
            calls++;
            openLeg(northOrSouth ? NORTH_LEG : EAST_LEG, sign);
            return true;
        }

        private static boolean isEastOrWest(int sign) {
            return sign == 'e' || sign == 'w';
        }

        private void openLeg(int leg, int sign) {
            part = leg;
            toward = sign == 'n' || sign == 'e' ? 1 : -1;
            number = 0;
        }

        private boolean takesDigit(int digit) {
            // A 0 ahead leaves the number at 0, so the bounds refuse it too.
            int longer = number * 10 + digit;
            if (longer < 1 || longer > GREATEST_NUMBER || calls < 1 || calls > MOST_CALLS) {
                return false;
            }
            number = longer;
            if (part == NORTH_LEG) {
                north[calls - 1] = toward * number;
            } else {
                east[calls - 1] = toward * number;
            }
            return true;
        }

        /** The MISS along one way: all its steps added, east or north. */
        int missed(int[] steps) {
            int all = 0;
            for (int k = 0; k < calls && k < steps.length; k++) {
                all += steps[k];
            }
            return all;
        }

        int far() {
            int all = 0;
            for (int k = 0; k < calls && k < MOST_CALLS; k++) {
                all += stepsOfCall(k);
            }
            return all;
        }

        private int stepsOfCall(int k) {
            return k >= 0 && k < MOST_CALLS ? Math.abs(east[k]) + Math.abs(north[k]) : 0;
        }

        /** The corners along one way, from the post's place on it. */
        int[] cornersFrom(int post, int[] steps) {
            int[] corners = new int[Math.max(0, calls)];
            int missed = missed(steps);
            int all = far();
            int point = post;
            int gone = 0;
            for (int k = 0; k < corners.length && k < steps.length; k++) {
                corners[k] = all == 0 ? point : point - missed * gone / all;
                point += steps[k];
                gone += stepsOfCall(k);
            }
            return corners;
        }
    }

    /** The corners in their order, and the sides between them. */
    private static final class Outline {
        final int[] xs;
        final int[] ys;
        final int corners;

        Outline(int[] xs, int[] ys) {
            this.xs = xs;
            this.ys = ys;
            this.corners = Math.min(xs.length, ys.length);
        }

        private int next(int corner) {
            return corner + 1 < corners ? corner + 1 : 0;
        }

        boolean stands() {
            for (int i = 0; i < corners; i++) {
                if (!isPost(xs[i], ys[i]) || isMerePoint(i)) {
                    return false;
                }
            }
            for (int i = 0; i < corners; i++) {
                for (int j = i + 1; j < corners; j++) {
                    if (clash(i, j)) {
                        return false;
                    }
                }
            }
            return true;
        }

        private boolean isMerePoint(int side) {
            int end = next(side);
            return xs[side] == xs[end] && ys[side] == ys[end];
        }

        private boolean clash(int side, int other) {
            if (next(side) == other) {
                return foldsBack(side, other);
            }
            if (next(other) == side) {
                return foldsBack(other, side);
            }
            return touch(side, other);
        }

        /** Whether a side lies on the one before it: then more than the corner is in both. */
        private boolean foldsBack(int side, int following) {
            int end = next(following);
            int backX = xs[side] - xs[following];
            int backY = ys[side] - ys[following];
            int onX = xs[end] - xs[following];
            int onY = ys[end] - ys[following];
            return backX * onY == backY * onX && backX * onX + backY * onY > 0;
        }

        private boolean touch(int side, int other) {
            int sideEnd = next(side);
            int otherEnd = next(other);
            if (isOn(side, xs[other], ys[other]) || isOn(side, xs[otherEnd], ys[otherEnd])
                    || isOn(other, xs[side], ys[side]) || isOn(other, xs[sideEnd], ys[sideEnd])) {
                return true;
            }
            // No end lies on the other side: they meet only where each parts the other's ends.
            int a = turnAt(side, xs[other], ys[other]);
            int b = turnAt(side, xs[otherEnd], ys[otherEnd]);
            int c = turnAt(other, xs[side], ys[side]);
            int d = turnAt(other, xs[sideEnd], ys[sideEnd]);
            return a * b < 0 && c * d < 0;
        }

        /** Above 0: the point is to the left of the side as one goes along it; 0: straight ahead or behind. */
        private int turnAt(int side, int x, int y) {
            int end = next(side);
            return (xs[end] - xs[side]) * (y - ys[side]) - (ys[end] - ys[side]) * (x - xs[side]);
        }

        private boolean isOn(int side, int x, int y) {
            int end = next(side);
            return turnAt(side, x, y) == 0
                    && x >= Math.min(xs[side], xs[end]) && x <= Math.max(xs[side], xs[end])
                    && y >= Math.min(ys[side], ys[end]) && y <= Math.max(ys[side], ys[end]);
        }

        void markPostsOn(int side, int[] rows) {
            int end = next(side);
            int toEast = xs[end] - xs[side];
            int toNorth = ys[end] - ys[side];
            int parts = (int) greatestDivisor(Math.abs(toEast), Math.abs(toNorth));
            for (int i = 0; i < parts; i++) {
                int x = xs[side] + toEast / parts * i;
                int y = ys[side] + toNorth / parts * i;
                if (isPost(x, y) && y < rows.length) {
                    rows[y] |= 1 << x;
                }
            }
        }

        /**
         * Flips all posts from which a line to the east crosses the side: those that all sides together flip
         * an odd number of times lie within. The upper end counts for no side, so that a corner that is
         * passed counts once or twice or not at all, as it should. Posts on a side come out either way.
         */
        void flipPostsWestOf(int side, int[] rows) {
            int end = next(side);
            int low = ys[side] < ys[end] ? side : end;
            int high = low == side ? end : side;
            int rise = ys[high] - ys[low];
            for (int i = 0; i < rise; i++) {
                int y = ys[low] + i;
                int postsWest = xs[low] - Math.floorDiv((xs[low] - xs[high]) * i, rise);
                if (isPost(postsWest, y) && y < rows.length) {
                    rows[y] ^= (1 << postsWest) - 1;
                }
            }
        }

        int twiceSignedArea() {
            int twice = 0;
            for (int i = 0; i < corners; i++) {
                int j = next(i);
                twice += xs[i] * ys[j] - xs[j] * ys[i];
            }
            return twice;
        }

        /**
         * Twice the area west of a line: what lies below the sides that go east less what lies below those
         * that go west, or the other way round; the line itself closes the outline with nothing below it.
         */
        void measureWest(int x, Ratio twice) {
            twice.clear();
            for (int side = 0; side < corners; side++) {
                int end = next(side);
                if (xs[side] < xs[end]) {
                    addBelow(side, end, x, twice, 1);
                } else {
                    addBelow(end, side, x, twice, -1);
                }
            }
            twice.dropSign();
        }

        private void addBelow(int from, int to, int x, Ratio twice, int times) {
            int breadth = xs[to] - xs[from];
            int run = Math.min(x, xs[to]) - xs[from];
            if (breadth > 0 && run > 0) {
                int rise = ys[to] - ys[from];
                twice.add(times * run * (2 * ys[from] * breadth + rise * run), breadth);
            }
        }

        String write() {
            StringBuilder signs = new StringBuilder();
            for (int i = 0; i < corners; i++) {
                int j = next(i);
                if (i > 0) {
                    signs.append(';');
                }
                writeLeg(signs, ys[j] - ys[i], 'n', 's');
                writeLeg(signs, xs[j] - xs[i], 'e', 'w');
            }
            return signs.toString();
        }

        private static void writeLeg(StringBuilder signs, int steps, char onward, char back) {
            if (steps != 0) {
                signs.append(steps > 0 ? onward : back);
                signs.append(Math.abs(steps));
            }
        }
    }

    /** An outline that stands, and how the posts lie to it; it never changes, so images share it. */
    private static final class Plot {
        final Outline outline;
        final String written;
        final int[] inside = new int[POSTS_A_ROW];
        final int[] sides = new int[POSTS_A_ROW];
        final int[] held = new int[POSTS_A_ROW];

        private Plot(Outline outline) {
            this.outline = outline;
            this.written = outline.write();
        }

        static Plot of(Outline outline) {
            Plot plot = new Plot(outline);
            plot.markPosts();
            return plot;
        }

        private void markPosts() {
            for (int side = 0; side < outline.corners; side++) {
                outline.markPostsOn(side, sides);
                outline.flipPostsWestOf(side, inside);
            }
            for (int y = 0; y < POSTS_A_ROW; y++) {
                inside[y] &= ~sides[y];
                held[y] = inside[y] | sides[y];
            }
        }

        int howManyInside() {
            return howManyInBoth(inside, inside);
        }

        int howManyOnSides() {
            return howManyInBoth(sides, sides);
        }
    }

    /** All that an image keeps: the plots with their years, and LOOSE. */
    private static final class Estate {
        final Plot[] plots = new Plot[MOST_PLOTS];
        final int[] years = new int[MOST_PLOTS];
        int size;
        int loose;

        boolean has(int plot) {
            return plot >= 0 && plot < size && plot < MOST_PLOTS;
        }

        /** The plot of a number; null: there is none. */
        Plot plotAt(int plot) {
            return has(plot) ? plots[plot] : null;
        }

        int yearOf(int plot) {
            return has(plot) ? years[plot] : 0;
        }

        void setYear(int plot, int year) {
            if (has(plot)) {
                years[plot] = year;
            }
        }

        int add(Plot plot, int year) {
            if (size < 0 || size >= MOST_PLOTS) {
                return FULL;
            }
            plots[size] = plot;
            years[size] = year;
            size++;
            return size - 1;
        }

        void remove(int plot) {
            if (!has(plot)) {
                return;
            }
            for (int i = plot; i + 1 < size && i + 1 < MOST_PLOTS; i++) {
                plots[i] = plots[i + 1];
                years[i] = years[i + 1];
            }
            size--;
        }

        void become(Estate other) {
            for (int i = 0; i < MOST_PLOTS; i++) {
                plots[i] = other.plots[i];
                years[i] = other.years[i];
            }
            size = other.size;
            loose = other.loose;
        }

        private boolean isOlder(int plot, int than) {
            int difference = yearOf(plot) - yearOf(than);
            return difference < 0 || difference == 0 && plot < than;
        }

        int howManyOlder(int plot) {
            int older = 0;
            for (int i = 0; i < size; i++) {
                if (isOlder(i, plot)) {
                    older++;
                }
            }
            return older;
        }

        /** The posts of one row that a plot holds; no plot holds none. */
        private int heldRow(int plot, int y) {
            Plot asked = plotAt(plot);
            return asked != null && isPlace(y) ? asked.held[y] : 0;
        }

        int oldestThatHolds(int x, int y) {
            int oldest = NONE;
            for (int i = 0; i < size; i++) {
                if (isIn(heldRow(i, y), x) && (oldest == NONE || isOlder(i, oldest))) {
                    oldest = i;
                }
            }
            return oldest;
        }

        int howManyLost(int plot) {
            int lost = 0;
            for (int y = 0; y < POSTS_A_ROW; y++) {
                int older = 0;
                for (int i = 0; i < size; i++) {
                    if (isOlder(i, plot)) {
                        older |= heldRow(i, y);
                    }
                }
                lost += Integer.bitCount(heldRow(plot, y) & older);
            }
            return lost;
        }

        int howManyDisputed() {
            int disputed = 0;
            for (int y = 0; y < POSTS_A_ROW; y++) {
                int once = 0;
                int again = 0;
                for (int i = 0; i < size; i++) {
                    int row = heldRow(i, y);
                    again |= once & row;
                    once |= row;
                }
                disputed += Integer.bitCount(again);
            }
            return disputed;
        }

        int freeRow(int y) {
            int taken = 0;
            for (int i = 0; i < size; i++) {
                taken |= heldRow(i, y);
            }
            return ~taken;
        }
    }

    /** The posts that are nobody's, and the gaps that they make. */
    private static final class Wastes {
        // The posts that no gap has been found for yet.
        final int[] open = new int[POSTS_A_ROW];
        // The posts of one gap as they are found, each y times 32 and x.
        final int[] found = new int[POSTS_A_ROW * POSTS_A_ROW];
        int foundSize;
        int posts;
        int gaps;
        int greatest;
        int firstX;
        int firstY;

        void survey(Estate estate) {
            posts = 0;
            for (int y = 0; y < POSTS_A_ROW; y++) {
                open[y] = estate.freeRow(y);
                posts += Integer.bitCount(open[y]);
            }
            gaps = 0;
            greatest = 0;
            firstX = NONE;
            firstY = NONE;
            for (int y = 0; y < POSTS_A_ROW; y++) {
                for (int x = 0; x < POSTS_A_ROW; x++) {
                    if (isIn(open[y], x)) {
                        enterGap(x, y);
                    }
                }
            }
        }

        private void enterGap(int x, int y) {
            int size = walkGap(x, y);
            gaps++;
            // Only a greater one takes the place, so of as great ones the first stays.
            if (size > greatest) {
                greatest = size;
                firstX = x;
                firstY = y;
            }
        }

        private int walkGap(int x, int y) {
            foundSize = 0;
            find(x, y);
            for (int i = 0; i < foundSize && i < found.length; i++) {
                int atX = found[i] % POSTS_A_ROW;
                int atY = found[i] / POSTS_A_ROW;
                find(atX, atY + 1);
                find(atX, atY - 1);
                find(atX + 1, atY);
                find(atX - 1, atY);
            }
            return foundSize;
        }

        private void find(int x, int y) {
            if (isPost(x, y) && isIn(open[y], x) && foundSize >= 0 && foundSize < found.length) {
                open[y] &= ~(1 << x);
                found[foundSize] = y * POSTS_A_ROW + x;
                foundSize++;
            }
        }
    }

    /** A fraction in lowest terms, the lower number above 0. */
    private static final class Ratio {
        long upper;
        long lower = 1;

        void clear() {
            upper = 0;
            lower = 1;
        }

        void add(long otherUpper, long otherLower) {
            upper = upper * otherLower + otherUpper * lower;
            lower = lower * otherLower;
            long shared = greatestDivisor(Math.abs(upper), lower);
            if (shared > 1) {
                upper /= shared;
                lower /= shared;
            }
        }

        void dropSign() {
            upper = Math.abs(upper);
        }
    }
}
