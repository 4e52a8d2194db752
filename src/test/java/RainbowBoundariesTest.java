import java.util.function.ToLongFunction;

/** The boundary cases of promises 23 to 29: rainbows, mixtures, exchanges. */
public final class RainbowBoundariesTest {
    public static void main(String[] args) throws Exception {
        Cases.run(RainbowBoundariesTest.class);
    }

    private static RainbowHulls triangle() {
        return Cases.of("red 0 0; green 4 0; blue 0 4;");
    }

    /** Blue 0, 1; green 2, 3; red 4, 5, all at the centre. */
    private static RainbowHulls twoOfEach() {
        return Cases.of("blue 0 0, 0 0; green 0 0, 0 0; red 0 0, 0 0;");
    }

    private static RainbowHulls eightOfEach() {
        return Cases.of(Cases.many("red", 8, "0 0") + ";" + Cases.many("green", 8, "0 0") + ";"
            + Cases.many("blue", 8, "0 0") + ";");
    }

    /** Four exchanges from (1, 3, 8), then it holds the centre. */
    private static RainbowHulls fourExchanges() {
        return Cases.of("red -1 5, 10 9, -4 3; green -4 12, 10 10, -3 -2; blue 8 -7, 6 -12, 3 5;");
    }

    /** Six exchanges from (1, 3, 7), then it is stuck. */
    private static RainbowHulls sixExchanges() {
        return Cases.of("red -3 -7, -11 -10, -6 4; green -12 -10, -2 -12, -4 -4; blue -4 5, -11 -1, -10 -10;");
    }

    /** A call of three points that are no rainbow; of triangle() the only one is 0, 1, 2. */
    private static void noRainbows(String call, ToLongFunction<int[]> answer, long none) {
        int[][] wrong = {{-1, 1, 2}, {3, 1, 2}, {1, 1, 2}, {2, 1, 2}, {Cases.LOW, 1, 2}, {Cases.HIGH, 1, 2},
            {0, -1, 2}, {0, 3, 2}, {0, 0, 2}, {0, 2, 2}, {0, Cases.LOW, 2}, {0, Cases.HIGH, 2},
            {0, 1, -1}, {0, 1, 3}, {0, 1, 0}, {0, 1, 1}, {0, 1, Cases.LOW}, {0, 1, Cases.HIGH}};
        for (int[] w : wrong) {
            Cases.due(call + " of " + w[0] + ", " + w[1] + ", " + w[2], answer.applyAsLong(w), none);
        }
        Cases.due(call + ": 1 if there is", answer.applyAsLong(new int[] {0, 1, 2}) == none ? 0 : 1, 1);
    }

    // ---- 23: rainbows ----

    static void promise23WithoutAColour() {
        Cases.due("no points", new RainbowHulls().rainbows(), 0);
        Cases.due("no red", Cases.of("green 0 0; blue 0 0;").rainbows(), 0);
        Cases.due("no green", Cases.of("red 0 0; blue 0 0;").rainbows(), 0);
        Cases.due("no blue", Cases.of("red 0 0; green 0 0;").rainbows(), 0);
        Cases.due("one of each", Cases.of("red 0 0; green 0 0; blue 0 0;").rainbows(), 1);
    }

    static void promise23TheRimHolds() {
        RainbowHulls x = triangle();
        int[][] places = {{0, 0, 1}, {4, 0, 1}, {0, 4, 1}, {2, 0, 1}, {0, 2, 1}, {2, 2, 1}, {1, 1, 1}, {3, 2, 0},
            {-1, 0, 0}, {5, 0, 0}, {2, -1, 0}, {-1, 2, 0}, {0, 5, 0}, {5, -1, 0}, {-1, 5, 0}};
        for (int[] p : places) {
            x.centres(p[0], p[1]);
            Cases.due("rainbows() at " + p[0] + " " + p[1], x.rainbows(), p[2]);
        }
    }

    static void promise23OnASidesLineBeyondItsEnd() {
        // The third point is seen at a wide angle from there.
        String[] three = {"0 0", "4 0", "-9 4"};
        int[][] orders = {{0, 1, 2}, {0, 2, 1}, {1, 0, 2}, {1, 2, 0}, {2, 0, 1}, {2, 1, 0}};
        for (int[] o : orders) {
            String text = "red " + three[o[0]] + "; green " + three[o[1]] + "; blue " + three[o[2]] + ";";
            Cases.due("-1 0 of " + text, Cases.of(text + "centre -1 0;").rainbows(), 0);
            Cases.due("1 0 of " + text, Cases.of(text + "centre 1 0;").rainbows(), 1);
        }
    }

    static void promise23JustBesideASide() {
        // No place is nearer to the side's line than these.
        String[] three = {"0 0", "2 1", "0 9"};
        int[][] orders = {{0, 1, 2}, {0, 2, 1}, {1, 0, 2}, {1, 2, 0}, {2, 0, 1}, {2, 1, 0}};
        for (int[] o : orders) {
            String text = "red " + three[o[0]] + "; green " + three[o[1]] + "; blue " + three[o[2]] + ";";
            Cases.due("1 0 of " + text, Cases.of(text + "centre 1 0;").rainbows(), 0);
            Cases.due("1 1 of " + text, Cases.of(text + "centre 1 1;").rainbows(), 1);
        }
    }

    static void promise23OnOneLine() {
        RainbowHulls x = Cases.of("red 1 0; green 3 0; blue 5 0;");
        int[][] places = {{0, 0, 0}, {1, 0, 1}, {2, 0, 1}, {3, 0, 1}, {4, 0, 1}, {5, 0, 1}, {6, 0, 0}, {2, 1, 0}, {2, -1, 0}};
        for (int[] p : places) {
            x.centres(p[0], p[1]);
            Cases.due("rainbows() at " + p[0] + " " + p[1], x.rainbows(), p[2]);
        }
    }

    static void promise23AtOnePlace() {
        RainbowHulls x = Cases.of("red 3 3; green 3 3; blue 3 3;");
        Cases.due("elsewhere", x.rainbows(), 0);
        x.centres(3, 3);
        Cases.due("there", x.rainbows(), 1);
        x.centres(3, 4);
        Cases.due("beside", x.rainbows(), 0);
    }

    static void promise23TheMost() {
        Cases.due("eight of each", eightOfEach().rainbows(), 512);
        Cases.due("22 red", Cases.of(Cases.many("red", 22, "0 0") + "; green 0 0; blue 0 0;").rainbows(), 22);
    }

    // ---- 24: rainbow ----

    static void promise24ByRedGreenBlue() {
        RainbowHulls x = twoOfEach();
        Cases.dueAll("rainbow(k, 0)", k -> x.rainbow(k, 0), 4, 4, 4, 4, 5, 5, 5, 5, -1);
        Cases.dueAll("rainbow(k, 1)", k -> x.rainbow(k, 1), 2, 2, 3, 3, 2, 2, 3, 3, -1);
        Cases.dueAll("rainbow(k, 2)", k -> x.rainbow(k, 2), 0, 1, 0, 1, 0, 1, 0, 1, -1);
    }

    static void promise24OfThoseThatHoldAlone() {
        RainbowHulls x = twoOfEach();
        x.moves(5, 9, 9);
        x.moves(3, 9, 9);
        x.moves(1, 9, 9);
        // All but (5, 3, 1) have one at the centre.
        Cases.due("rainbows()", x.rainbows(), 7);
        Cases.dueAll("rainbow(6, colour)", c -> x.rainbow(6, c), 5, 3, 0, -2);
        Cases.dueAll("rainbow(7, colour)", c -> x.rainbow(7, c), -1, -1, -1, -2);
    }

    static void promise24NotSoMany() {
        RainbowHulls x = triangle();
        Cases.dueAll("rainbow(k, 1)", k -> x.rainbow(k, 1), 1, -1, -1);
        Cases.due("rainbow(max, 1)", x.rainbow(Cases.HIGH, 1), -1);
        x.centres(9, 9);
        Cases.due("none holds", x.rainbow(0, 1), -1);
        Cases.due("no points", new RainbowHulls().rainbow(0, 0), -1);
        RainbowHulls all = eightOfEach();
        Cases.dueAll("rainbow(511, colour)", c -> all.rainbow(511, c), 7, 15, 23, -2);
        Cases.dueAll("rainbow(512, colour)", c -> all.rainbow(512, c), -1, -1, -1, -2);
    }

    static void promise24BelowZero() {
        RainbowHulls x = triangle();
        Cases.dueAt("rainbow(k, 0)", k -> x.rainbow(k, 0), -2, -1, -2, Cases.LOW);
        Cases.due("no points", new RainbowHulls().rainbow(-1, 0), -2);
    }

    static void promise24Colours() {
        RainbowHulls x = triangle();
        Cases.dueAll("rainbow(0, colour)", c -> x.rainbow(0, c), 0, 1, 2);
        Cases.dueAt("rainbow(0, colour)", c -> x.rainbow(0, c), -2, -1, 3, Cases.LOW, Cases.HIGH);
        Cases.dueAt("rainbow(9, colour)", c -> x.rainbow(9, c), -2, -1, 3);
    }

    /** A centre whose x and y differ: neither may stand for the other. */
    private static final int[][] UNEVEN = {{1, 3}, {3, 1}};

    static void promise24OfAnUnevenCentre() {
        RainbowHulls x = triangle();
        for (int[] p : UNEVEN) {
            x.centres(p[0], p[1]);
            Cases.dueAll("rainbow(0, colour) at " + p[0] + " " + p[1], c -> x.rainbow(0, c), 0, 1, 2, -2);
            Cases.dueAll("rainbow(1, colour) at " + p[0] + " " + p[1], c -> x.rainbow(1, c), -1, -1, -1, -2);
        }
        RainbowHulls long5 = Cases.of("red 0 0; green 9 0; blue 0 3; centre 5 1;");
        Cases.due("rainbow(0, 1) at 5 1", long5.rainbow(0, 1), 1);
        long5.centres(1, 5);
        Cases.due("rainbow(0, 1) at 1 5", long5.rainbow(0, 1), -1);
        // The hull holds 1 1, but neither of these.
        x.centres(1, 4);
        Cases.due("rainbow(0, 0) at 1 4", x.rainbow(0, 0), -1);
        x.centres(4, 1);
        Cases.due("rainbow(0, 0) at 4 1", x.rainbow(0, 0), -1);
    }

    // ---- 25: mixture ----

    private static void mixtureIs(String text, long... four) {
        RainbowHulls x = Cases.of(text);
        Cases.dueAll("mixture of " + text, w -> x.mixture(0, 1, 2, w), four);
    }

    static void promise25NoRainbow() {
        RainbowHulls x = triangle();
        noRainbows("mixture", p -> x.mixture(p[0], p[1], p[2], 0), Cases.NO);
    }

    static void promise25OtherWhats() {
        RainbowHulls x = triangle();
        Cases.dueAll("mixture", w -> x.mixture(0, 1, 2, w), 1, 0, 0, 1);
        Cases.dueAt("mixture", w -> x.mixture(0, 1, 2, w), Cases.NO, -1, 4, 5, Cases.LOW, Cases.HIGH);
    }

    static void promise25DoesNotHoldIt() {
        mixtureIs("red 0 0; green 4 0; blue 0 4; centre 3 2;", Cases.NO, Cases.NO, Cases.NO, Cases.NO);
        mixtureIs("red 0 0; green 4 0; blue 0 4; centre 2 2;", 0, 1, 1, 2);
        mixtureIs("red 0 0; green 4 0; blue 0 4; centre -1 0;", Cases.NO, Cases.NO, Cases.NO, Cases.NO);
        mixtureIs("red 1 0; green 2 0; blue 3 0;", Cases.NO, Cases.NO, Cases.NO, Cases.NO);
        mixtureIs("red 1 1; green 1 1; blue 1 1;", Cases.NO, Cases.NO, Cases.NO, Cases.NO);
    }

    static void promise25OneOfThem() {
        mixtureIs("red 0 0; green 0 0; blue 0 0;", 1, 0, 0, 1);
        mixtureIs("red 0 0; green 1 0; blue -1 0;", 1, 0, 0, 1);
        mixtureIs("red 3 3; green 0 0; blue 0 0;", 0, 1, 0, 1);
        mixtureIs("red 3 3; green 0 0; blue -3 -3;", 0, 1, 0, 1);
        mixtureIs("red 3 3; green -3 -3; blue 0 0;", 0, 0, 1, 1);
    }

    static void promise25TwoOfThem() {
        // All three pairs of sides of the centre: red green goes first, then red blue.
        mixtureIs("red -2 0; green 1 0; blue 4 0;", 1, 2, 0, 3);
        mixtureIs("red -2 0; green 4 0; blue 1 0;", 2, 1, 0, 3);
        mixtureIs("red 1 0; green 2 0; blue -3 0;", 3, 0, 1, 4);
        mixtureIs("red -2 0; green -1 0; blue 4 0;", 2, 0, 1, 3);
        mixtureIs("red 1 5; green -1 0; blue 3 0;", 0, 3, 1, 4);
        mixtureIs("red 5 1; green 0 -20; blue 0 20;", 0, 1, 1, 2);
    }

    static void promise25TwoOnAnUprightLineOnASlope() {
        mixtureIs("red 0 -2; green 0 4; blue 9 9;", 2, 1, 0, 3);
        mixtureIs("red 0 2; green 0 -1; blue 0 -5;", 1, 2, 0, 3);
        mixtureIs("red -2 -4; green 1 2; blue 9 9;", 1, 2, 0, 3);
        mixtureIs("red 2 -4; green 9 9; blue -1 2;", 1, 0, 2, 3);
        mixtureIs("red 9 9; green 1 0; blue -1 0;", 0, 1, 1, 2);
        mixtureIs("red 9 9; green 0 1; blue 0 -1;", 0, 1, 1, 2);
        mixtureIs("red 3 -1; green 6 5; blue 19 0; centre 5 3;", 1, 2, 0, 3);
        mixtureIs("red 1 0; green -1 0; blue 5 0;", 1, 1, 0, 2);
        mixtureIs("red 0 -1; green 0 1; blue 0 5;", 1, 1, 0, 2);
    }

    static void promise25OneOfThemAtAnUnevenCentre() {
        for (int[] p : UNEVEN) {
            String centre = "centre " + p[0] + " " + p[1] + ";";
            String there = p[0] + " " + p[1];
            mixtureIs("red " + there + "; green 3 3; blue 1 1;" + centre, 1, 0, 0, 1);
            mixtureIs("red 3 3; green " + there + "; blue 1 1;" + centre, 0, 1, 0, 1);
            mixtureIs("red 1 1; green 3 3; blue " + there + ";" + centre, 0, 0, 1, 1);
        }
    }

    static void promise25TwoOfThemAtAnUnevenCentre() {
        // 1 3 is a third of the way from 0 2 to 3 5, 3 1 from 2 0 to 5 3.
        for (String[] ends : new String[][] {{"0 2", "3 5", "1 3"}, {"2 0", "5 3", "3 1"}}) {
            String centre = "centre " + ends[2] + ";";
            mixtureIs("red " + ends[0] + "; green " + ends[1] + "; blue 9 9;" + centre, 2, 1, 0, 3);
            mixtureIs("red " + ends[1] + "; green 9 9; blue " + ends[0] + ";" + centre, 1, 0, 2, 3);
            mixtureIs("red 9 9; green " + ends[0] + "; blue " + ends[1] + ";" + centre, 0, 2, 1, 3);
        }
    }

    static void promise25OneBehindAnotherOfTheSameObject() {
        RainbowHulls x = Cases.of("red 4 0; green -1 1; blue -1 -1;");
        Cases.dueAll("all three", w -> x.mixture(0, 1, 2, w), 1, 2, 2, 5);
        x.moves(1, -4, 0);
        Cases.dueAll("red, green", w -> x.mixture(0, 1, 2, w), 1, 1, 0, 2);
        x.moves(0, 0, 0);
        Cases.dueAll("red", w -> x.mixture(0, 1, 2, w), 1, 0, 0, 1);
        x.moves(0, 9, -9);
        Cases.dueAll("none", w -> x.mixture(0, 1, 2, w), Cases.NO, Cases.NO, Cases.NO, Cases.NO);
        x.moves(2, 0, 0);
        Cases.dueAll("blue", w -> x.mixture(0, 1, 2, w), 0, 0, 1, 1);
    }

    static void promise25AllThree() {
        mixtureIs("red 4 0; green -1 1; blue -1 -1;", 1, 2, 2, 5);
        mixtureIs("red 4 0; green -1 -1; blue -1 1;", 1, 2, 2, 5);
        mixtureIs("red -20 -20; green 20 -20; blue 0 20;", 1, 1, 2, 4);
        mixtureIs("red 4 1; green -1 2; blue -1 0; centre 0 1;", 1, 2, 2, 5);
        mixtureIs("red 7 0; green 2 1; blue 2 -1; centre 3 0;", 1, 2, 2, 5);
        mixtureIs("red 0 -5; green -5 -4; blue -5 -6; centre -4 -5;", 1, 2, 2, 5);
    }

    // ---- 26: exchanges ----

    static void promise26NoRainbow() {
        RainbowHulls x = triangle();
        noRainbows("exchanges what 0", p -> x.exchanges(p[0], p[1], p[2], 0), -2);
        noRainbows("exchanges what 1", p -> x.exchanges(p[0], p[1], p[2], 1), -2);
    }

    static void promise26OtherWhats() {
        RainbowHulls x = triangle();
        Cases.dueAt("exchanges", w -> x.exchanges(0, 1, 2, w), -2, -1, 2, 3, Cases.LOW, Cases.HIGH);
    }

    static void promise26HoldsAtOnce() {
        RainbowHulls x = triangle();
        int[][] places = {{0, 0, 1}, {2, 2, 1}, {1, 1, 1}, {3, 2, 0}, {-1, 0, 0}};
        for (int[] p : places) {
            x.centres(p[0], p[1]);
            Cases.dueAll("exchanges at " + p[0] + " " + p[1], w -> x.exchanges(0, 1, 2, w), 0, p[2]);
        }
    }

    static void promise26HoldsAnUnevenCentreAtOnce() {
        RainbowHulls x = triangle();
        for (int[] p : UNEVEN) {
            x.centres(p[0], p[1]);
            Cases.dueAll("exchanges at " + p[0] + " " + p[1], w -> x.exchanges(0, 1, 2, w), 0, 1);
            Cases.dueAll("exchanged at " + p[0] + " " + p[1], w -> x.exchanged(0, 1, 2, 0, w), 0, 1, 2, -1);
            Cases.dueAll("distance at " + p[0] + " " + p[1], w -> x.distance(0, 1, 2, 0, w), 0, 1);
            Cases.dueAll("starts at " + p[0] + " " + p[1], x::starts, 0, 0);
        }
    }

    static void promise26StuckIfNotLess() {
        // Red at (4, 0) is nearest, green goes; 16 is its own product.
        RainbowHulls x = Cases.of("red 4 0; green 4 4, 4 9; blue 4 -4;");
        Cases.dueAll("16, the same", w -> x.exchanges(0, 1, 3, w), 0, 0);
        x.moves(2, 3, 9);
        Cases.dueAll("12, less", w -> x.exchanges(0, 1, 3, w), 1, 0);
        x.moves(2, 5, 9);
        Cases.dueAll("20, more", w -> x.exchanges(0, 1, 3, w), 0, 0);
    }

    static void promise26StuckIfNotLessOnASlope() {
        // Red is nearest, green goes; 5 is red's own product.
        RainbowHulls flat = Cases.of("red 2 1; green 4 2, 1 3; blue 3 0;");
        Cases.dueAll("5, the same", w -> flat.exchanges(0, 1, 3, w), 0, 0);
        flat.moves(2, 1, 2);
        Cases.dueAll("4, less", w -> flat.exchanges(0, 1, 3, w), 1, 0);
        RainbowHulls steep = Cases.of("red 1 2; green 2 4, 3 1; blue 0 3;");
        Cases.dueAll("5, the same", w -> steep.exchanges(0, 1, 3, w), 0, 0);
        steep.moves(2, 2, 1);
        Cases.dueAll("4, less", w -> steep.exchanges(0, 1, 3, w), 1, 0);
    }

    static void promise26StuckIfNotLessThanABrokenPlace() {
        // The nearest place lies on x + 3 y = 3, at 3/10 of 1, 3; blue goes.
        RainbowHulls x = Cases.of("red 3 0; green 0 1; blue 6 0, -3 2;");
        Cases.dueAll("3, the same", w -> x.exchanges(0, 1, 2, w), 0, 0);
        x.moves(3, -4, 2);
        Cases.dueAll("2, less", w -> x.exchanges(0, 1, 2, w), 1, 0);
        RainbowHulls y = Cases.of("red 0 3; green 1 0; blue 0 6, 2 -3;");
        Cases.dueAll("3, the same", w -> y.exchanges(0, 1, 2, w), 0, 0);
        y.moves(3, 2, -4);
        Cases.dueAll("2, less", w -> y.exchanges(0, 1, 2, w), 1, 0);
    }

    /** All that can be asked of the ways from each rainbow. */
    private static String ways(RainbowHulls x) {
        StringBuilder told = new StringBuilder();
        for (int red = 0; red < 3; red++) {
            for (int blue = 6; blue < 9; blue++) {
                int made = x.exchanges(red, 4, blue, 0);
                told.append(made).append(x.exchanges(red, 4, blue, 1)).append(':');
                for (int what = 0; what < 4; what++) {
                    told.append(' ').append(x.exchanged(red, 4, blue, made, what));
                }
                told.append(' ').append(x.distance(red, 4, blue, made, 0)).append('/');
                told.append(x.distance(red, 4, blue, made, 1)).append("; ");
            }
        }
        return told.append(x.starts(0)).append(' ').append(x.starts(1)).toString();
    }

    private static void moveAll(RainbowHulls x, int dx, int dy) {
        for (int p = 0; p < x.count(0); p++) {
            x.moves(p, (int) x.point(p, 0) + dx, (int) x.point(p, 1) + dy);
        }
        x.centres((int) x.centre(0) + dx, (int) x.centre(1) + dy);
    }

    private static void turnOver(RainbowHulls x) {
        for (int p = 0; p < x.count(0); p++) {
            x.moves(p, (int) x.point(p, 1), (int) x.point(p, 0));
        }
        x.centres((int) x.centre(1), (int) x.centre(0));
    }

    static void promise26TheSameElsewhere() {
        int[][] ways = {{8, -8}, {-8, 3}, {0, 7}, {5, 0}};
        for (int[] w : ways) {
            RainbowHulls held = fourExchanges();
            moveAll(held, w[0], w[1]);
            Cases.same("going " + w[0] + " " + w[1], ways(held), ways(fourExchanges()));
            RainbowHulls stuck = sixExchanges();
            moveAll(stuck, w[0], w[1]);
            Cases.same("going " + w[0] + " " + w[1], ways(stuck), ways(sixExchanges()));
        }
    }

    static void promise26TheSameTurnedOver() {
        for (int[] w : new int[][] {{8, -8}, {-8, 3}}) {
            RainbowHulls held = fourExchanges();
            moveAll(held, w[0], w[1]);
            turnOver(held);
            Cases.same("x and y exchanged", ways(held), ways(fourExchanges()));
            RainbowHulls stuck = sixExchanges();
            moveAll(stuck, w[0], w[1]);
            turnOver(stuck);
            Cases.same("x and y exchanged", ways(stuck), ways(sixExchanges()));
        }
    }

    static void promise26FromTheLeastDistance() {
        RainbowHulls x = Cases.of("red 1 0; green 2 1, -5 0; blue 2 -1;");
        Cases.dueAll("exchanges", w -> x.exchanges(0, 1, 3, w), 1, 1);
        Cases.dueAll("distance", k -> x.distance(0, 1, 3, k, 0), 1, 0, Cases.NO);
    }

    static void promise26TillItHoldsOrIsStuck() {
        RainbowHulls held = fourExchanges();
        Cases.dueAll("exchanges", w -> held.exchanges(1, 3, 8, w), 4, 1);
        RainbowHulls stuck = sixExchanges();
        Cases.dueAll("exchanges", w -> stuck.exchanges(1, 3, 7, w), 6, 0);
    }

    // ---- 27: exchanged ----

    static void promise27NoRainbow() {
        RainbowHulls x = triangle();
        noRainbows("exchanged", p -> x.exchanged(p[0], p[1], p[2], 0, 0), -2);
    }

    static void promise27OtherWhats() {
        RainbowHulls x = fourExchanges();
        Cases.dueAt("exchanged", w -> x.exchanged(1, 3, 8, 0, w), -2, -1, 4, 5, Cases.LOW, Cases.HIGH);
        Cases.dueAt("exchanged", w -> x.exchanged(1, 3, 8, 4, w), -2, -1, 4, 5, Cases.LOW, Cases.HIGH);
    }

    static void promise27From0ToHowMany() {
        RainbowHulls x = fourExchanges();
        Cases.dueAll("red", k -> x.exchanged(1, 3, 8, k, 0), 1, 2, 2, 1, 1, -2, -2);
        Cases.dueAll("green", k -> x.exchanged(1, 3, 8, k, 1), 3, 3, 5, 5, 5, -2, -2);
        Cases.dueAll("blue", k -> x.exchanged(1, 3, 8, k, 2), 8, 8, 8, 8, 7, -2, -2);
        Cases.dueAll("the colour that went", k -> x.exchanged(1, 3, 8, k, 3), -1, 0, 1, 0, 2, -2, -2);
        Cases.dueAt("exchanged", k -> x.exchanged(1, 3, 8, k, 0), -2, -1, Cases.LOW, Cases.HIGH);
        RainbowHulls stuck = sixExchanges();
        Cases.dueAll("the colour that went", k -> stuck.exchanged(1, 3, 7, k, 3), -1, 0, 1, 0, 2, 0, 1, -2);
    }

    static void promise27HoldsAtOnceOrIsStuckAtOnce() {
        RainbowHulls x = triangle();
        Cases.dueAll("held", k -> x.exchanged(0, 1, 2, k, 1), 1, -2);
        x.centres(9, 9);
        Cases.dueAll("stuck", k -> x.exchanged(0, 1, 2, k, 1), 1, -2);
        Cases.due("no colour went", x.exchanged(0, 1, 2, 0, 3), -1);
    }

    /** From (0, 2, 4) one of this colour goes, and the other one of it, at -5, comes. */
    private static void goes(String red, String green, String blue, int colour) {
        RainbowHulls x = Cases.of("red " + red + ", -5 0; green " + green + ", -5 0; blue " + blue + ", -5 0;");
        String told = red + "; " + green + "; " + blue;
        Cases.due("which went of " + told, x.exchanged(0, 2, 4, 1, 3), colour);
        for (int c = 0; c < 3; c++) {
            Cases.due("colour " + c + " of " + told, x.exchanged(0, 2, 4, 1, c), 2 * c + (c == colour ? 1 : 0));
        }
    }

    static void promise27FaceOfOnePoint() {
        goes("4 0", "9 1", "9 -1", 1);
        goes("9 1", "4 0", "9 -1", 0);
        goes("9 1", "9 -1", "4 0", 0);
    }

    static void promise27FaceOfSeveralAtOnePlace() {
        goes("4 0", "4 0", "9 0", 1);
        goes("4 0", "9 0", "4 0", 1);
        goes("9 0", "4 0", "4 0", 0);
        goes("4 0", "4 0", "4 0", 1);
    }

    static void promise27APointOfTheThreeAheadOfTwo() {
        // (4, 0) lies between the other two as well.
        goes("4 0", "4 5", "4 -5", 1);
        goes("4 5", "4 0", "4 -5", 0);
        goes("4 5", "4 -5", "4 0", 0);
    }

    static void promise27FaceOfTwo() {
        goes("4 -2", "4 2", "9 0", 2);
        goes("4 -2", "9 0", "4 2", 1);
        goes("9 0", "4 -2", "4 2", 0);
    }

    static void promise27FaceOfTheFirstTwo() {
        goes("4 -2", "4 2", "4 3", 2);
        goes("4 3", "4 -2", "4 2", 2);
        goes("4 -2", "4 3", "4 2", 2);
        goes("4 -2", "4 -3", "4 2", 1);
        goes("4 2", "4 2", "4 -2", 1);
    }

    static void promise27TheLeastOfLikeOnes() {
        RainbowHulls x = Cases.of("red 4 0; green 4 4, -1 0, -1 5, 0 -9; blue 4 -4;");
        Cases.due("exchanged", x.exchanged(0, 1, 5, 1, 1), 2);
        x.moves(2, 0, 0);
        Cases.due("exchanged", x.exchanged(0, 1, 5, 1, 1), 3);
        RainbowHulls y = Cases.of("green -1 5, -1 0; red 4 0; green 4 4; blue 4 -4;");
        Cases.due("exchanged", y.exchanged(2, 3, 4, 1, 1), 0);
    }

    // ---- 28: distance ----

    static void promise28NoRainbow() {
        RainbowHulls x = triangle();
        noRainbows("distance", p -> x.distance(p[0], p[1], p[2], 0, 0), Cases.NO);
    }

    static void promise28OtherWhats() {
        RainbowHulls x = fourExchanges();
        Cases.dueAt("distance", w -> x.distance(1, 3, 8, 0, w), Cases.NO, -1, 2, 3, Cases.LOW, Cases.HIGH);
        Cases.dueAt("distance", w -> x.distance(1, 3, 8, 4, w), Cases.NO, -1, 2, 3, Cases.LOW, Cases.HIGH);
    }

    static void promise28From0ToHowMany() {
        RainbowHulls x = fourExchanges();
        Cases.dueAll("above", k -> x.distance(1, 3, 8, k, 0), 34, 841, 81, 49, 0, Cases.NO, Cases.NO);
        Cases.dueAll("lower", k -> x.distance(1, 3, 8, k, 1), 1, 53, 85, 290, 1, Cases.NO, Cases.NO);
        Cases.dueAt("distance", k -> x.distance(1, 3, 8, k, 0), Cases.NO, -1, Cases.LOW, Cases.HIGH);
        RainbowHulls stuck = sixExchanges();
        Cases.dueAll("above", k -> stuck.distance(1, 3, 7, k, 0), 122, 1369, 32, 400, 16, 1849, 3364, Cases.NO);
        Cases.dueAll("lower", k -> stuck.distance(1, 3, 7, k, 1), 1, 25, 1, 17, 1, 145, 293, Cases.NO);
    }

    static void promise28ZeroByOne() {
        RainbowHulls x = triangle();
        int[][] places = {{0, 0}, {2, 2}, {1, 1}};
        for (int[] p : places) {
            x.centres(p[0], p[1]);
            Cases.dueAll("distance, held", w -> x.distance(0, 1, 2, 0, w), 0, 1, Cases.NO);
        }
        x.centres(3, 2);
        Cases.dueAll("distance, not held", w -> x.distance(0, 1, 2, 0, w), 1, 2, Cases.NO);
    }

    static void promise28LowestTerms() {
        // The nearest place of the side from (3, 9) to (4, -4) is 312/85, 24/85.
        RainbowHulls x = Cases.of("red 4 0; green 4 4, 3 9; blue 4 -4;");
        Cases.dueAll("k 0", w -> x.distance(0, 1, 3, 0, w), 16, 1);
        Cases.dueAll("k 1", w -> x.distance(0, 1, 3, 1, w), 1152, 85);
        RainbowHulls far = Cases.of("red 20 20; green 20 20; blue 20 20; centre -20 -20;");
        Cases.dueAll("the farthest", w -> far.distance(0, 1, 2, 0, w), 3200, 1);
    }

    // ---- 29: starts ----

    static void promise29OtherWhats() {
        RainbowHulls x = triangle();
        Cases.dueAt("starts", x::starts, -2, -1, 2, 3, Cases.LOW, Cases.HIGH);
        Cases.dueAt("starts without points", new RainbowHulls()::starts, -2, -1, 2);
    }

    static void promise29WithoutAny() {
        Cases.dueAll("no points", new RainbowHulls()::starts, 0, 0, -2);
        Cases.dueAll("no blue", Cases.of("red 1 1; green 2 2;")::starts, 0, 0, -2);
        Cases.dueAll("no green", Cases.of("red 1 1; blue 2 2;")::starts, 0, 0, -2);
        Cases.dueAll("no red", Cases.of("green 1 1; blue 2 2;")::starts, 0, 0, -2);
    }

    static void promise29EachWhatAlone() {
        Cases.due("starts(0)", sixExchanges().starts(0), 27);
        Cases.due("starts(1)", sixExchanges().starts(1), 6);
    }

    static void promise29OnceMore() {
        RainbowHulls x = sixExchanges();
        Cases.dueAll("starts", x::starts, 27, 6);
        Cases.dueAll("starts once more", x::starts, 27, 6);
        x.removes(0);
        x.removes(0);
        x.removes(0);
        Cases.dueAll("no red any more", x::starts, 0, 0);
        RainbowHulls y = triangle();
        y.centres(9, 9);
        Cases.dueAll("stuck", y::starts, 1, 0);
        y.centres(1, 1);
        Cases.dueAll("held", y::starts, 0, 0);
    }

    static void promise29OneRainbow() {
        RainbowHulls x = triangle();
        Cases.dueAll("held", x::starts, 0, 0);
        x.centres(9, 9);
        Cases.dueAll("stuck", x::starts, 1, 0);
    }

    static void promise29AllRainbows() {
        Cases.dueAll("held by all", eightOfEach()::starts, 0, 0);
        RainbowHulls x = eightOfEach();
        x.centres(1, 0);
        Cases.dueAll("all stuck", x::starts, 512, 0);
    }

    static void promise29TheMostExchanges() {
        Cases.dueAll("held by all at last", fourExchanges()::starts, 0, 4);
        Cases.dueAll("all stuck at last", sixExchanges()::starts, 27, 6);
        Cases.dueAll("some", Cases.of("red -2 5, -3 3; green 1 -5, 5 -4; blue -3 4, -5 -1;")::starts, 4, 2);
    }

    static void promise29AsEachOfThemTells() {
        for (RainbowHulls x : new RainbowHulls[] {fourExchanges(), sixExchanges()}) {
            int stuck = 0;
            int most = 0;
            for (int k = 0; k < 27; k++) {
                stuck += 1 - x.exchanges(k / 9, 3 + k / 3 % 3, 6 + k % 3, 1);
                most = Math.max(most, x.exchanges(k / 9, 3 + k / 3 % 3, 6 + k % 3, 0));
            }
            Cases.dueAll("starts", x::starts, stuck, most);
        }
    }
}
