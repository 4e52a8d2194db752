import java.util.ArrayList;
import java.util.List;
import java.util.function.BiFunction;

/** The boundary cases of promises 9 to 16: hulls, what they hold, the nearest place, the line. */
public final class HullBoundariesTest {
    public static void main(String[] args) throws Exception {
        Cases.run(HullBoundariesTest.class);
    }

    /** Corners of a square, the middle of its low side, its middle; the centre outside. */
    private static RainbowHulls square() {
        return Cases.of("red 0 0, 4 0; green 4 4, 0 4; blue 2 0, 2 2; centre 7 2;");
    }

    private static RainbowHulls full() {
        return Cases.of(Cases.many("red", 22, "0 0") + "; blue 20 20, -20 20; centre 0 -20;");
    }

    /** SETS have one POINT at least, and none that there is not. */
    private static void sets(String call, BiFunction<RainbowHulls, Integer, Long> answer, long none) {
        RainbowHulls x = square();
        Cases.dueAt(call, set -> answer.apply(x, set), none, 0, 64, 65, 127, 1 << 24, 1 << 30, -1, Cases.LOW,
            Cases.LOW + 1, Cases.HIGH);
        for (int set : new int[] {1, 32, 63}) {
            Cases.due(call + " of a set at " + set + ": 1 if there is", answer.apply(x, set) == none ? 0 : 1, 1);
        }
        RainbowHulls all = full();
        Cases.due(call + " of the 24th: 1 if there is", answer.apply(all, 1 << 23) == none ? 0 : 1, 1);
        Cases.due(call + " of all 24: 1 if there is", answer.apply(all, Cases.ALL_24) == none ? 0 : 1, 1);
        Cases.dueAt(call + " beyond 24", set -> answer.apply(all, set), none, 1 << 24, Cases.ALL_24 + (1 << 24), 0, -1);
        all.removes(23);
        Cases.due(call + " of one that went", answer.apply(all, 1 << 23), none);
        Cases.due(call + " without points", answer.apply(new RainbowHulls(), 1), none);
        Cases.due(call + " without points", answer.apply(new RainbowHulls(), 0), none);
    }

    // ---- 9: corners ----

    static void promise09Sets() {
        sets("corners", (x, set) -> (long) x.corners(set), -2);
    }

    static void promise09OnePoint() {
        RainbowHulls x = square();
        Cases.dueAt("corners", x::corners, 1, 1, 2, 4, 8, 16, 32);
    }

    static void promise09TwoPoints() {
        RainbowHulls x = square();
        Cases.dueAt("corners", x::corners, 2, 0b11, 0b101, 0b110000);
    }

    static void promise09SeveralAtOnePlace() {
        RainbowHulls x = Cases.of("red 1 1, 1 1; blue 1 1, 5 1, 5 1, 1 6;");
        Cases.due("corners of one place", x.corners(0b000111), 1);
        Cases.due("corners of two places", x.corners(0b011111), 2);
        Cases.due("corners of three places", x.corners(0b111111), 3);
        Cases.due("corners of 24 at one", Cases.of(Cases.many("red", 24, "-20 20") + ";").corners(Cases.ALL_24), 1);
    }

    static void promise09BetweenOthersIsNone() {
        RainbowHulls x = square();
        Cases.due("on one line", x.corners(0b010011), 2);
        Cases.due("on the rim", x.corners(0b011111), 4);
        Cases.due("inside", x.corners(0b101111), 4);
        x.moves(4, 2, -1);
        Cases.due("just beyond the rim", x.corners(0b011111), 5);
        x.moves(4, 2, 1);
        Cases.due("just inside the rim", x.corners(0b011111), 4);
    }

    static void promise09EveryPointACorner() {
        // A ring of twelve, each place twice.
        String ring = "2 0,8 0,5 -1,10 2,10 8,11 5,8 10,2 10,5 11,0 8,0 2,-1 5";
        RainbowHulls x = Cases.of("red " + ring + "; blue " + ring + ";");
        Cases.due("corners", x.corners(Cases.ALL_24), 12);
        Cases.due("corner(all, 11)", x.corner(Cases.ALL_24, 11), 9);
        Cases.due("corner(all, 12)", x.corner(Cases.ALL_24, 12), -1);
    }

    /** Twenty-four corners, clockwise from (-8, 1). */
    private static RainbowHulls ring() {
        return Cases.of("red -8 1, -7 4, -6 6, -5 7, -3 8, 0 9, 1 9, 4 8, 6 7, 7 6, 8 4, 9 1; blue 9 0, 8 -3, 7 -5,"
            + " 6 -6, 4 -7, 1 -8, 0 -8, -3 -7, -5 -6, -6 -5, -7 -3, -8 0;");
    }

    static void promise09AllOf24Corners() {
        RainbowHulls x = ring();
        Cases.due("corners", x.corners(Cases.ALL_24), 24);
        for (int i = 0; i < 24; i++) {
            Cases.due("corner " + i, x.corner(Cases.ALL_24, i), 23 - i);
        }
        Cases.due("corner 24", x.corner(Cases.ALL_24, 24), -1);
        Cases.due("area", x.area(Cases.ALL_24), 438);
        Cases.due("places", x.places(Cases.ALL_24), 232);
        Cases.due("where", x.where(Cases.ALL_24, 8, 2), 2);
        Cases.due("where", x.where(Cases.ALL_24, 9, 2), 0);
        Cases.due("holds", x.holds(Cases.ALL_24), 1);
        Cases.due("meet", x.meet(Cases.ALL_24, Cases.ALL_24), 1);
    }

    // ---- 10: corner ----

    static void promise10Sets() {
        sets("corner", (x, set) -> (long) x.corner(set, 0), -2);
    }

    static void promise10NotSoMany() {
        RainbowHulls x = square();
        Cases.dueAll("corner(63, i)", i -> x.corner(63, i), 0, 1, 2, 3, -1, -1);
        Cases.due("corner(63, max)", x.corner(63, Cases.HIGH), -1);
        Cases.dueAll("corner(1, i)", i -> x.corner(1, i), 0, -1);
        Cases.dueAll("corner(3, i)", i -> x.corner(3, i), 0, 1, -1);
    }

    static void promise10BelowZero() {
        RainbowHulls x = square();
        Cases.dueAt("corner(63, i)", i -> x.corner(63, i), -2, -1, -2, Cases.LOW);
    }

    static void promise10NoSetAheadOfNotSoMany() {
        RainbowHulls x = square();
        Cases.due("corner(0, 9)", x.corner(0, 9), -2);
        Cases.due("corner(64, 9)", x.corner(64, 9), -2);
        Cases.due("corner(0, -1)", x.corner(0, -1), -2);
    }

    static void promise10TheLeastOfSeveral() {
        RainbowHulls x = Cases.of("red 5 5, 0 0, 5 5, 0 0, 0 9;");
        Cases.dueAll("corner(31, i)", i -> x.corner(31, i), 1, 0, 4, -1);
        Cases.dueAll("corner(28, i)", i -> x.corner(28, i), 3, 2, 4, -1);
        Cases.dueAll("corner(5, i)", i -> x.corner(5, i), 0, -1);
        Cases.dueAll("corner(4, i)", i -> x.corner(4, i), 2, -1);
    }

    static void promise10TheLeastByXThenYFirst() {
        RainbowHulls x = Cases.of("red 4 0, 4 4, 0 4, 0 0;");
        Cases.dueAll("corner(15, i)", i -> x.corner(15, i), 3, 0, 1, 2, -1);
        RainbowHulls y = Cases.of("red 1 -20, 20 20, 0 20;");
        Cases.dueAll("corner(7, i)", i -> y.corner(7, i), 2, 0, 1, -1);
    }

    static void promise10OfTwoToo() {
        RainbowHulls x = Cases.of("red 4 -9, 3 9, 3 8;");
        Cases.dueAll("by x", i -> x.corner(3, i), 1, 0, -1);
        Cases.dueAll("by y", i -> x.corner(6, i), 2, 1, -1);
    }

    static void promise10Counterclockwise() {
        RainbowHulls x = Cases.of("red 0 0, 2 9, 9 2, 8 8;");
        Cases.dueAll("corner(15, i)", i -> x.corner(15, i), 0, 2, 3, 1, -1);
    }

    /** Points of each order of these places; then the corners' places, whichever points are there. */
    private static void inEachOrder(String[] places, String want) {
        int all = 1;
        for (int i = 0; i < places.length; i++) {
            all *= places.length - i;
        }
        for (int code = 0; code < all; code++) {
            List<String> rest = new ArrayList<>(List.of(places));
            StringBuilder text = new StringBuilder();
            for (int i = 0, left = code; i < places.length; i++) {
                text.append(i == 0 ? "red " : ", ").append(rest.remove(left % rest.size()));
                left /= places.length - i;
            }
            RainbowHulls x = Cases.of(text + ";");
            StringBuilder got = new StringBuilder();
            int set = (1 << places.length) - 1;
            for (int i = 0; i < x.corners(set); i++) {
                int p = x.corner(set, i);
                got.append('(').append(x.point(p, 0)).append(' ').append(x.point(p, 1)).append(')');
            }
            Cases.same(text.toString(), got.toString(), want);
        }
    }

    static void promise10WhicheverComesFirst() {
        inEachOrder(new String[] {"3 -1", "3 0", "3 2", "3 5"}, "(3 -1)(3 5)");
        inEachOrder(new String[] {"0 3", "0 7", "0 1", "2 4", "2 0"}, "(0 1)(2 0)(2 4)(0 7)");
        inEachOrder(new String[] {"-2 2", "1 -1", "1 1", "1 5", "0 0"}, "(-2 2)(1 -1)(1 5)");
    }

    // ---- 11: area ----

    static void promise11Sets() {
        sets("area", (x, set) -> (long) x.area(set), -2);
    }

    static void promise11WithoutAnArea() {
        RainbowHulls x = square();
        Cases.due("one", x.area(1), 0);
        Cases.due("two", x.area(3), 0);
        Cases.due("three on one line", x.area(0b010011), 0);
    }

    static void promise11TheLeastAndTheGreatest() {
        RainbowHulls x = Cases.of("red 0 0, 1 0, 0 1; blue -20 -20, 20 -20, 20 20, -20 20;");
        Cases.due("half a unit", x.area(7), 1);
        Cases.due("all", x.area(127), 3200);
        Cases.due("half of all", x.area(0b0111000), 1600);
    }

    // ---- 12: places ----

    static void promise12Sets() {
        sets("places", (x, set) -> (long) x.places(set), -2);
    }

    static void promise12WithoutAnArea() {
        RainbowHulls x = Cases.of("red 0 0, 6 4, 3 2, 20 -20, -20 -20;");
        Cases.due("one", x.places(1), 1);
        Cases.due("two, one between", x.places(3), 3);
        Cases.due("two, none between", x.places(5), 2);
        Cases.due("three on one line", x.places(7), 3);
        Cases.due("a whole side", x.places(24), 41);
        Cases.due("one at the edge", x.places(8), 1);
    }

    static void promise12TheRimToo() {
        RainbowHulls x = Cases.of("red 0 0, 1 0, 0 1; blue -20 -20, 20 -20, 20 20, -20 20;");
        Cases.due("no place inside", x.places(7), 3);
        Cases.due("all", x.places(127), 1681);
        Cases.due("half of all", x.places(0b0111000), 861);
    }

    // ---- 13: where ----

    static void promise13Sets() {
        sets("where", (x, set) -> (long) x.where(set, 1, 1), -2);
    }

    static void promise13BoundsOfX() {
        RainbowHulls x = Cases.of("red -20 -20, 20 -20, 20 20, -20 20;");
        Cases.dueAt("where(15, x, 0)", a -> x.where(15, a, 0), -2, -21, 21, Cases.LOW, Cases.HIGH);
        Cases.dueAt("where(15, x, 0)", a -> x.where(15, a, 0), 1, -20, 20);
        Cases.dueAt("where(15, x, 0)", a -> x.where(15, a, 0), 2, -19, 19);
    }

    static void promise13BoundsOfY() {
        RainbowHulls x = Cases.of("red -20 -20, 20 -20, 20 20, -20 20;");
        Cases.dueAt("where(15, 0, y)", a -> x.where(15, 0, a), -2, -21, 21, Cases.LOW, Cases.HIGH);
        Cases.dueAt("where(15, 0, y)", a -> x.where(15, 0, a), 1, -20, 20);
        Cases.dueAt("where(15, 0, y)", a -> x.where(15, 0, a), 2, -19, 19);
    }

    static void promise13InsideRimOutside() {
        RainbowHulls x = square();
        Cases.dueAt("where(15, x, 2)", a -> x.where(15, a, 2), 0, -1, 5);
        Cases.dueAt("where(15, x, 2)", a -> x.where(15, a, 2), 1, 0, 4);
        Cases.dueAt("where(15, x, 2)", a -> x.where(15, a, 2), 2, 1, 3);
        Cases.dueAt("where(15, 2, y)", a -> x.where(15, 2, a), 0, -1, 5);
        Cases.dueAt("where(15, 2, y)", a -> x.where(15, 2, a), 1, 0, 4);
        Cases.dueAt("where(15, 2, y)", a -> x.where(15, 2, a), 2, 1, 3);
        Cases.dueAt("corners, where(15, x, x)", a -> x.where(15, a, a), 1, 0, 4);
        Cases.dueAt("on a side's line, where(15, x, 0)", a -> x.where(15, a, 0), 0, -1, 5);
        Cases.due("a point on the rim", x.where(63, 2, 0), 1);
        Cases.due("a point inside", x.where(63, 2, 2), 2);
    }

    static void promise13OnASlope() {
        RainbowHulls x = Cases.of("red 0 0, 6 3, 0 9;");
        Cases.due("on it", x.where(7, 4, 2), 1);
        Cases.due("above it", x.where(7, 4, 3), 2);
        Cases.due("below it", x.where(7, 4, 1), 0);
    }

    static void promise13WithoutAnAreaAllIsRim() {
        RainbowHulls x = Cases.of("red 0 0, 6 3, 2 1;");
        for (int set : new int[] {3, 7}) {
            Cases.due("an end", x.where(set, 0, 0), 1);
            Cases.due("the other end", x.where(set, 6, 3), 1);
            Cases.due("between", x.where(set, 4, 2), 1);
            Cases.due("beside", x.where(set, 4, 1), 0);
            Cases.due("beside", x.where(set, 4, 3), 0);
            Cases.due("behind an end", x.where(set, 8, 4), 0);
            Cases.due("behind the other end", x.where(set, -2, -1), 0);
        }
        Cases.due("one point", x.where(4, 2, 1), 1);
        Cases.due("beside one point", x.where(4, 2, 2), 0);
        Cases.due("beside one point", x.where(4, 1, 1), 0);
    }

    // ---- 14: holds ----

    static void promise14Sets() {
        sets("holds", (x, set) -> (long) x.holds(set), -2);
    }

    static void promise14TheRimHolds() {
        RainbowHulls x = square();
        int[][] places = {{-1, 2, 0}, {0, 2, 1}, {1, 2, 1}, {3, 2, 1}, {4, 2, 1}, {5, 2, 0}, {2, -1, 0}, {2, 0, 1},
            {2, 4, 1}, {2, 5, 0}, {4, 4, 1}, {5, 5, 0}, {0, 0, 1}, {-1, 0, 0}};
        for (int[] p : places) {
            x.centres(p[0], p[1]);
            Cases.due("holds(15) of " + p[0] + " " + p[1], x.holds(15), p[2]);
        }
    }

    static void promise14WithoutAnArea() {
        RainbowHulls x = Cases.of("red 0 0, 6 3;");
        int[][] places = {{0, 0, 1}, {2, 1, 1}, {6, 3, 1}, {8, 4, 0}, {-2, -1, 0}, {2, 2, 0}, {3, 1, 0}};
        for (int[] p : places) {
            x.centres(p[0], p[1]);
            Cases.due("holds(3) of " + p[0] + " " + p[1], x.holds(3), p[2]);
        }
        Cases.due("one point", x.holds(1), 0);
        x.centres(0, 0);
        Cases.due("one point", x.holds(1), 1);
        Cases.due("another point", x.holds(2), 0);
    }

    // ---- 15: nearest ----

    static void promise15Sets() {
        sets("nearest", (x, set) -> x.nearest(set, 2), Cases.NO);
    }

    private static void nearestIs(RainbowHulls x, int set, long... five) {
        Cases.dueAll("nearest(" + set + ", what)", w -> x.nearest(set, w), five);
    }

    static void promise15OtherWhats() {
        RainbowHulls x = square();
        Cases.dueAt("nearest(63, what)", w -> x.nearest(63, w), Cases.NO, -1, 5, 6, Cases.LOW, Cases.HIGH);
        x.centres(2, 2);
        Cases.dueAt("nearest(63, what), held", w -> x.nearest(63, w), Cases.NO, -1, 5, Cases.LOW, Cases.HIGH);
    }

    static void promise15HeldIsTheCentreItself() {
        RainbowHulls x = square();
        x.centres(3, 1);
        nearestIs(x, 15, 3, 1, 1, 0, 1);
        x.centres(4, 3);
        nearestIs(x, 15, 4, 3, 1, 0, 1);
        x.centres(0, 0);
        nearestIs(x, 1, 0, 0, 1, 0, 1);
        nearestIs(x, 63, 0, 0, 1, 0, 1);
        x.centres(1, 0);
        nearestIs(x, 3, 1, 0, 1, 0, 1);
    }

    static void promise15JustOutside() {
        RainbowHulls x = square();
        x.centres(5, 3);
        nearestIs(x, 15, 4, 3, 1, 1, 1);
        x.centres(5, 5);
        nearestIs(x, 15, 4, 4, 1, 2, 1);
        x.centres(5, 4);
        nearestIs(x, 15, 4, 4, 1, 1, 1);
    }

    static void promise15LowestTerms() {
        // x + 2 y = 6 from 0 0: the foot is 6/5, 12/5, its distance squared 36/5.
        nearestIs(Cases.of("red 6 0, 0 3;"), 3, 6, 12, 5, 36, 5);
        // The same line, below 0.
        nearestIs(Cases.of("red -6 0, 0 -3;"), 3, -6, -12, 5, 36, 5);
        // x + y = 1: 1/2, 1/2, squared 1/2.
        nearestIs(Cases.of("red 1 0, 0 1;"), 3, 1, 1, 2, 1, 2);
        // x + y = 4: 2, 2, a whole place.
        nearestIs(Cases.of("red 4 0, 0 4;"), 3, 2, 2, 1, 8, 1);
        // From -1 3 the foot on y = x is 1, 1.
        nearestIs(Cases.of("red 0 0, 20 20; centre -1 3;"), 3, 1, 1, 1, 8, 1);
        // From 0 1 it is 1/2, 1/2.
        nearestIs(Cases.of("red 0 0, 20 20; centre 0 1;"), 3, 1, 1, 2, 1, 2);
    }

    static void promise15AnEndOrBetween() {
        RainbowHulls x = Cases.of("red 0 0, 4 2;");
        x.centres(-1, 2);
        nearestIs(x, 3, 0, 0, 1, 5, 1);
        x.centres(-2, 4);
        nearestIs(x, 3, 0, 0, 1, 20, 1);
        // From 0 1: the foot is (2, 1) times 1/5.
        x.centres(0, 1);
        nearestIs(x, 3, 2, 1, 5, 4, 5);
        x.centres(3, 4);
        nearestIs(x, 3, 4, 2, 1, 5, 1);
        x.centres(4, 4);
        nearestIs(x, 3, 4, 2, 1, 4, 1);
        x.centres(3, 3);
        // (3 * 2 + 3) / 5 times (2, 1), 9 / sqrt 5 .. squared (18 - 81 / 5).
        nearestIs(x, 3, 18, 9, 5, 9, 5);
    }

    static void promise15OnePoint() {
        RainbowHulls x = Cases.of("red 20 20; centre -20 -20;");
        nearestIs(x, 1, 20, 20, 1, 3200, 1);
        RainbowHulls same = Cases.of("red 20 20, 20 20; centre -20 20;");
        nearestIs(same, 3, 20, 20, 1, 1600, 1);
    }

    // ---- 16: line ----

    private static void lineIs(RainbowHulls x, int set, long... three) {
        Cases.dueAll("line(" + set + ", what)", w -> x.line(set, w), three);
    }

    static void promise16Sets() {
        sets("line", (x, set) -> x.line(set, 0), Cases.NO);
    }

    static void promise16OtherWhats() {
        RainbowHulls x = square();
        lineIs(x, 63, -1, 0, -4);
        Cases.dueAt("line(63, what)", w -> x.line(63, w), Cases.NO, -1, 3, 4, Cases.LOW, Cases.HIGH);
    }

    static void promise16HeldHasNone() {
        RainbowHulls x = square();
        int[][] places = {{1, 1}, {4, 2}, {4, 4}, {2, 0}};
        for (int[] p : places) {
            x.centres(p[0], p[1]);
            lineIs(x, 15, Cases.NO, Cases.NO, Cases.NO);
        }
        x.centres(5, 2);
        lineIs(x, 15, -1, 0, -4);
        x.centres(0, 0);
        lineIs(x, 1, Cases.NO, Cases.NO, Cases.NO);
        lineIs(x, 3, Cases.NO, Cases.NO, Cases.NO);
    }

    static void promise16WithoutACommonDivisor() {
        lineIs(Cases.of("red 6 0, 0 3;"), 3, 1, 2, 6);
        lineIs(Cases.of("red -6 0, 0 -3;"), 3, -1, -2, 6);
        lineIs(Cases.of("red 20 20; centre -20 -20;"), 1, 1, 1, 40);
        lineIs(Cases.of("red -20 -20; centre 20 20;"), 1, -1, -1, 40);
        lineIs(Cases.of("red 0 20;"), 1, 0, 1, 20);
        lineIs(Cases.of("red -4 6;"), 1, -2, 3, 26);
        lineIs(Cases.of("red -20 19; centre 20 -20;"), 1, -40, 39, 1541);
    }

    static void promise16TheLeastOfItsPoints() {
        // From 7 2 to 4 2 the direction is -1, 0: the least is that of x 4, all others have more.
        lineIs(square(), 47, -1, 0, -4);
        RainbowHulls x = Cases.of("red 1 1, 9 1, 1 9; centre -5 -5;");
        lineIs(x, 7, 1, 1, 2);
        lineIs(x, 6, 1, 1, 10);
        // Below 0, and 0.
        x.centres(20, 1);
        lineIs(x, 7, -1, 0, -9);
        RainbowHulls y = Cases.of("red 0 0, 0 5; centre -3 2;");
        lineIs(y, 3, 1, 0, 0);
    }
}
