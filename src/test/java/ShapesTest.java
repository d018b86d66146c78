/**
 * "A PLOT stands, if ..": all outlines on 3 by 3 posts, of 3 to 5 corners, and of 6 to 8 that are all apart.
 * What two sides have together is found by looking at 841 points of the one, one after the other.
 */
public final class ShapesTest extends LandTest {
    private static final int POSTS = 9, FIRST = 29;
    // Where two such sides cross, the share of a side is a whole number by 8 or less: 840 is divided by all of these.
    private static final int PARTS = 840;

    private static final int[][] together = new int[POSTS * POSTS][POSTS * POSTS];
    private static int outlines = 0, stood = 0;

    public static void main(String[] args) {
        for (int side = 0; side < POSTS * POSTS; side++) {
            for (int other = 0; other < POSTS * POSTS; other++) {
                together[side][other] = pointsTogether(side / POSTS, side % POSTS, other / POSTS, other % POSTS);
            }
        }
        for (int corners = 3; corners <= 8; corners++) {
            choose(new int[corners], 0, corners > 5);
        }
        System.out.println("outlines: " + outlines + ", of these stood: " + stood);
        end("the shapes hold");
    }

    private static int pointsTogether(int from, int to, int otherFrom, int otherTo) {
        int points = 0;
        for (int i = 0; i <= PARTS; i++) {
            int x = from % 3 * (PARTS - i) + to % 3 * i, y = from / 3 * (PARTS - i) + to / 3 * i;
            points += isOn(x, y, otherFrom, otherTo) ? 1 : 0;
        }
        return points;
    }

    private static boolean isOn(int x, int y, int from, int to) {
        int ax = from % 3 * PARTS - x, ay = from / 3 * PARTS - y, bx = to % 3 * PARTS - x, by = to / 3 * PARTS - y;
        // Seen from a point on the side its ends lie opposite, or one of them is that point.
        return ax * by == ay * bx && ax * bx <= 0 && ay * by <= 0;
    }

    private static void choose(int[] outline, int chosen, boolean apart) {
        if (chosen == outline.length) {
            enter(outline);
            return;
        }
        for (int post = 0; post < POSTS; post++) {
            boolean again = chosen > 0 && post == outline[chosen - 1];
            for (int i = 0; i < chosen; i++) {
                again |= apart && post == outline[i];
            }
            if (!again) {
                outline[chosen] = post;
                choose(outline, chosen + 1, apart);
            }
        }
    }

    private static void enter(int[] outline) {
        int n = outline.length;
        // A call of no steps can't be told.
        if (outline[n - 1] == outline[0]) {
            return;
        }
        LandDeeds land = telling(textOf(outline));
        int answer = land.deed(FIRST + outline[0] % 3, FIRST + outline[0] / 3, 1);
        boolean stands = stands(outline);
        due("deed of " + textOf(outline), answer, stands ? 0 : LandDeeds.AWRY);
        outlines++;
        if (stands) {
            stood++;
            due("Pick's area of " + textOf(outline), land.about(0, 2), 2 * land.about(0, 4) + land.about(0, 5) - 2);
            boolean onSide = land.lies(0, FIRST + 1, FIRST + 1) == 1;
            due("the middle post on a side of " + textOf(outline), onSide ? 1 : 0, hasOnSide(outline, 4) ? 1 : 0);
        }
    }

    private static int side(int[] outline, int k) {
        return outline[k] * POSTS + outline[(k + 1) % outline.length];
    }

    private static boolean stands(int[] outline) {
        int n = outline.length;
        for (int i = 0; i < n; i++) {
            for (int j = 0; j < i; j++) {
                boolean follow = i - j == 1 || i - j == n - 1;
                if (together[side(outline, i)][side(outline, j)] != (follow ? 1 : 0)) {
                    return false;
                }
            }
        }
        return true;
    }

    private static boolean hasOnSide(int[] outline, int post) {
        for (int k = 0; k < outline.length; k++) {
            if (isOn(post % 3 * PARTS, post / 3 * PARTS, outline[k], outline[(k + 1) % outline.length])) {
                return true;
            }
        }
        return false;
    }

    private static String textOf(int[] outline) {
        StringBuilder text = new StringBuilder();
        for (int k = 0; k < outline.length; k++) {
            int next = outline[(k + 1) % outline.length];
            int east = next % 3 - outline[k] % 3, north = next / 3 - outline[k] / 3;
            text.append(k > 0 ? ";" : "");
            text.append(north > 0 ? "n" + north : north < 0 ? "s" + -north : "");
            text.append(east > 0 ? "e" + east : east < 0 ? "w" + -east : "");
        }
        return text.toString();
    }
}
