/** The boundary cases of promises 36 to 39: how deep a place lies, triangles, the deepest place, what must go. */
public final class DepthBoundariesTest {
    public static void main(String[] args) throws Exception {
        Cases.run(DepthBoundariesTest.class);
    }

    private static RainbowHulls square() {
        return Cases.of("red 0 0; green 4 0; blue 4 4; red 0 4;");
    }

    private static RainbowHulls allAt(String place) {
        return Cases.of(Cases.many("red", 8, place) + ";" + Cases.many("green", 8, place) + ";"
            + Cases.many("blue", 8, place) + ";");
    }

    // ---- 36: depth ----

    static void promise36BoundsOfX() {
        RainbowHulls x = Cases.of("red -20 0, 20 0, 19 0;");
        Cases.dueAt("depth(x, 0)", a -> x.depth(a, 0), -2, -21, 21, Cases.LOW, Cases.HIGH);
        Cases.dueAt("depth(x, 0)", a -> x.depth(a, 0), 1, -20, -19, 20);
        Cases.due("depth(19, 0)", x.depth(19, 0), 2);
    }

    static void promise36BoundsOfY() {
        RainbowHulls x = Cases.of("red 0 -20, 0 20, 0 19;");
        Cases.dueAt("depth(0, y)", a -> x.depth(0, a), -2, -21, 21, Cases.LOW, Cases.HIGH);
        Cases.dueAt("depth(0, y)", a -> x.depth(0, a), 1, -20, -19, 20);
        Cases.due("depth(0, 19)", x.depth(0, 19), 2);
    }

    static void promise36WithoutPoints() {
        RainbowHulls x = new RainbowHulls();
        Cases.due("depth(0, 0)", x.depth(0, 0), 0);
        Cases.due("depth(20, -20)", x.depth(20, -20), 0);
        Cases.due("depth(21, 0)", x.depth(21, 0), -2);
    }

    static void promise36OnePoint() {
        RainbowHulls x = Cases.of("red 20 -20;");
        Cases.due("there", x.depth(20, -20), 1);
        Cases.due("beside", x.depth(19, -20), 0);
        Cases.due("beside", x.depth(20, -19), 0);
    }

    static void promise36APlaceHasXAndY() {
        RainbowHulls x = Cases.of("red 1 3;");
        Cases.due("depth(1, 3)", x.depth(1, 3), 1);
        Cases.due("depth(3, 1)", x.depth(3, 1), 0);
        Cases.due("depth(1, 1)", x.depth(1, 1), 0);
        Cases.due("depth(3, 3)", x.depth(3, 3), 0);
    }

    static void promise36TheRimCounts() {
        RainbowHulls x = square();
        int[][] places = {{0, 0, 1}, {-1, 0, 0}, {2, 0, 1}, {2, -1, 0}, {2, 1, 1}, {2, 2, 2}, {1, 2, 1}, {1, 1, 1},
            {4, 4, 1}, {5, 4, 0}, {5, 5, 0}, {3, 3, 1}};
        for (int[] p : places) {
            Cases.due("depth(" + p[0] + ", " + p[1] + ")", x.depth(p[0], p[1]), p[2]);
        }
    }

    static void promise36OnOneLine() {
        RainbowHulls x = Cases.of("red 0 0, 1 0, 2 0, 3 0, 4 0;");
        Cases.dueAll("depth(x, 0)", a -> x.depth(a, 0), 1, 2, 3, 2, 1, 0);
        Cases.dueAll("depth(x, 1)", a -> x.depth(a, 1), 0, 0, 0, 0, 0, 0);
    }

    static void promise36SeveralAtOnePlace() {
        RainbowHulls x = allAt("3 3");
        Cases.due("all there", x.depth(3, 3), 24);
        Cases.due("beside", x.depth(3, 4), 0);
        x.moves(0, 3, 4);
        Cases.due("one beside", x.depth(3, 3), 23);
        Cases.due("at that one", x.depth(3, 4), 1);
        x.moves(1, 3, 2);
        Cases.due("one on each side", x.depth(3, 3), 23);
    }

    // ---- 37: triangles ----

    static void promise37BoundsOfX() {
        RainbowHulls x = Cases.of("red -20 0; green 20 0; blue 0 20;");
        for (int what = 0; what < 2; what++) {
            int w = what;
            Cases.dueAt("triangles(x, 0, " + w + ")", a -> x.triangles(a, 0, w), -2, -21, 21, Cases.LOW, Cases.HIGH);
            Cases.dueAt("triangles(x, 0, " + w + ")", a -> x.triangles(a, 0, w), 1, -20, 0, 20);
        }
    }

    static void promise37BoundsOfY() {
        RainbowHulls x = Cases.of("red 0 -20; green 0 20; blue 20 0;");
        for (int what = 0; what < 2; what++) {
            int w = what;
            Cases.dueAt("triangles(0, y, " + w + ")", a -> x.triangles(0, a, w), -2, -21, 21, Cases.LOW, Cases.HIGH);
            Cases.dueAt("triangles(0, y, " + w + ")", a -> x.triangles(0, a, w), 1, -20, 0, 20);
        }
    }

    static void promise37OtherWhats() {
        RainbowHulls x = square();
        Cases.dueAt("triangles(2, 2, what)", w -> x.triangles(2, 2, w), -2, -1, 2, 3, Cases.LOW, Cases.HIGH);
        Cases.due("x is none either", x.triangles(21, 2, 2), -2);
    }

    static void promise37FewerThanThree() {
        Cases.dueAll("none", w -> new RainbowHulls().triangles(0, 0, w), 0, 0, -2);
        Cases.dueAll("one", w -> Cases.of("red 0 0;").triangles(0, 0, w), 0, 0, -2);
        Cases.dueAll("two", w -> Cases.of("red 0 0; blue 0 0;").triangles(0, 0, w), 0, 0, -2);
        Cases.dueAll("three", w -> Cases.of("red 0 0; blue 0 0; green 0 0;").triangles(0, 0, w), 1, 1, -2);
        Cases.dueAll("three, no green", w -> Cases.of("red 0 0; blue 0 0, 0 0;").triangles(0, 0, w), 1, 0, -2);
    }

    static void promise37TheRimHolds() {
        RainbowHulls x = Cases.of("red 0 0; green 4 0; blue 0 4;");
        int[][] places = {{0, 0, 1}, {4, 0, 1}, {2, 0, 1}, {2, 2, 1}, {1, 1, 1}, {3, 2, 0}, {-1, 0, 0}, {0, 5, 0}, {5, 0, 0}};
        for (int[] p : places) {
            Cases.dueAll("triangles(" + p[0] + ", " + p[1] + ", what)", w -> x.triangles(p[0], p[1], w), p[2], p[2]);
        }
    }

    static void promise37BesideASideAndOnItsLine() {
        RainbowHulls wide = Cases.of("red 0 0; green 4 0; blue -9 4;");
        Cases.dueAll("triangles(-1, 0, what)", w -> wide.triangles(-1, 0, w), 0, 0);
        Cases.dueAll("triangles(-1, 1, what)", w -> wide.triangles(-1, 1, w), 1, 1);
        RainbowHulls thin = Cases.of("red 0 0; green 2 1; blue 0 9;");
        Cases.dueAll("triangles(1, 0, what)", w -> thin.triangles(1, 0, w), 0, 0);
        Cases.dueAll("triangles(1, 1, what)", w -> thin.triangles(1, 1, w), 1, 1);
    }

    static void promise37WithoutAnArea() {
        RainbowHulls x = Cases.of("red 1 1; green 3 3; blue 5 5;");
        Cases.dueAll("triangles(x, x, 0)", a -> x.triangles(a, a, 0), 0, 1, 1, 1, 1, 1, 0);
        Cases.dueAll("triangles(x, x, 1)", a -> x.triangles(a, a, 1), 0, 1, 1, 1, 1, 1, 0);
        Cases.dueAll("triangles(2, y, 0)", a -> x.triangles(2, a, 0), 0, 0, 1, 0);
        RainbowHulls one = Cases.of("red 3 3; green 3 3; blue 3 3;");
        Cases.dueAll("triangles(3, y, 0)", a -> one.triangles(3, a, 0), 0, 0, 0, 1, 0);
    }

    static void promise37TheMost() {
        Cases.dueAll("all 24 there", w -> allAt("0 0").triangles(0, 0, w), 2024, 512, -2);
        Cases.dueAll("all 24 beside", w -> allAt("0 1").triangles(0, 0, w), 0, 0, -2);
        RainbowHulls red = Cases.of(Cases.many("red", 24, "0 0") + ";");
        Cases.dueAll("24 red", w -> red.triangles(0, 0, w), 2024, 0, -2);
    }

    static void promise37AllThreesRainbowsAlone() {
        RainbowHulls x = square();
        // Each three hold the middle, on a diagonal; red green blue are 0 1 2 and 3 1 2.
        Cases.dueAll("triangles(2, 2, what)", w -> x.triangles(2, 2, w), 4, 2);
        // 0 1 3, 0 1 2 and 0 2 3 hold (1, 1).
        Cases.dueAll("triangles(1, 1, what)", w -> x.triangles(1, 1, w), 3, 1);
    }

    // ---- 38: deepest ----

    private static void deepestIs(String text, long... three) {
        Cases.dueAll("deepest of " + text, Cases.of(text)::deepest, three);
    }

    static void promise38NoPoints() {
        Cases.dueAll("deepest", new RainbowHulls()::deepest, Cases.NO, Cases.NO, Cases.NO);
        RainbowHulls x = Cases.of("red 5 5;");
        Cases.dueAll("deepest", x::deepest, 5, 5, 1);
        x.removes(0);
        Cases.dueAll("deepest", x::deepest, Cases.NO, Cases.NO, Cases.NO);
    }

    static void promise38OtherWhats() {
        Cases.dueAt("deepest", square()::deepest, Cases.NO, -1, 3, 4, Cases.LOW, Cases.HIGH);
    }

    static void promise38FromMinus20To20() {
        deepestIs("red -20 -20;", -20, -20, 1);
        deepestIs("red 20 20;", 20, 20, 1);
        deepestIs("red -20 20;", -20, 20, 1);
        deepestIs("red 20 -20;", 20, -20, 1);
    }

    static void promise38TheLeastByXThenY() {
        deepestIs("red 3 7, 3 -7;", 3, -7, 1);
        deepestIs("red 7 3, -7 3;", -7, 3, 1);
        deepestIs("red 20 -20, 20 20, -20 20;", -20, 20, 1);
        deepestIs("red 5 -20, 4 20;", 4, 20, 1);
        // Two places of depth 2: the one that is less by x, then the one that is less by y.
        deepestIs("red 9 0, 9 0, 1 5, 1 5;", 1, 5, 2);
        deepestIs("red 1 9, 1 9, 1 5, 1 5;", 1, 5, 2);
    }

    static void promise38PlacesOfWholeNumbersAlone() {
        deepestIs("red 0 0, 4 0, 4 4, 0 4;", 2, 2, 2);
        // Its middle is 3/2, 3/2.
        deepestIs("red 0 0, 3 0, 3 3, 0 3;", 0, 0, 1);
    }

    static void promise38BehindAChange() {
        RainbowHulls x = Cases.of("red 5 5, 5 5, 5 5;");
        Cases.dueAll("three", x::deepest, 5, 5, 3);
        x.moves(0, -5, 5);
        Cases.dueAll("two", x::deepest, 5, 5, 2);
        x.removes(1);
        Cases.dueAll("one here, one there", x::deepest, -5, 5, 1);
        x.adds(7, 7, 1);
        x.adds(7, 7, 1);
        Cases.dueAll("two elsewhere", x::deepest, 7, 7, 2);
    }

    static void promise38TheGreatest() {
        Cases.dueAll("all 24 at one place", allAt("-3 2")::deepest, -3, 2, 24);
        RainbowHulls x = allAt("-3 2");
        x.moves(0, -20, -20);
        Cases.dueAll("one elsewhere", x::deepest, -3, 2, 23);
    }

    // ---- 39: frees ----

    private static void freesIs(String text, long... two) {
        Cases.dueAll("frees of " + text, Cases.of(text)::frees, two);
    }

    static void promise39OtherWhats() {
        Cases.dueAt("frees", square()::frees, -2, -1, 2, 3, Cases.LOW, Cases.HIGH);
        Cases.dueAt("frees without points", new RainbowHulls()::frees, -2, -1, 2);
    }

    static void promise39NoneMust() {
        Cases.dueAll("without points", new RainbowHulls()::frees, 0, 0);
        freesIs("red 0 0, 4 0, 4 4, 0 4; centre 5 2;", 0, 0);
        freesIs("red 0 0, 4 0, 4 4, 0 4; centre -1 0;", 0, 0);
        freesIs("red 1 0, 3 0; centre 4 0;", 0, 0);
        freesIs("red 1 1;", 0, 0);
    }

    static void promise39AnUnevenCentre() {
        // A point is at the centre if both its x and its y are.
        freesIs("red 3 3; centre 1 3;", 0, 0);
        freesIs("red 1 1; centre 1 3;", 0, 0);
        freesIs("red 3 3; centre 3 1;", 0, 0);
        freesIs("red 3 1; centre 1 3;", 0, 0);
        freesIs("red 1 3; centre 3 1;", 0, 0);
        freesIs("red 3 3, 3 1; centre 3 1;", 1, 0b10);
        freesIs("red 1 1, 1 3; centre 1 3;", 1, 0b10);
        freesIs("red 1 1, 1 5; centre 1 3;", 1, 0b01);
        freesIs("red 1 1, 5 1; centre 3 1;", 1, 0b01);
    }

    static void promise39TheRimHolds() {
        freesIs("red 0 0, 4 0, 4 4, 0 4; centre 4 2;", 1, 0b0010);
        freesIs("red 0 0, 4 0, 4 4, 0 4; centre 4 4;", 1, 0b0100);
        freesIs("red 1 0, 3 0; centre 2 0;", 1, 0b01);
        freesIs("red 1 0, 3 0; centre 3 0;", 1, 0b10);
    }

    static void promise39AllMust() {
        freesIs("red 0 0;", 1, 1);
        freesIs("red 0 0, 0 0, 0 0;", 3, 7);
        Cases.dueAll("24", allAt("0 0")::frees, 24, Cases.ALL_24);
        RainbowHulls x = allAt("0 0");
        x.moves(0, 1, 0);
        Cases.dueAll("all but one", x::frees, 23, Cases.ALL_24 - 1);
    }

    static void promise39TheLeastSetOfSoFew() {
        // Two neighbours must go.
        freesIs("red 0 0, 4 0, 4 4, 0 4; centre 2 2;", 2, 0b0011);
        freesIs("red 0 0, 4 4, 4 0, 0 4; centre 2 2;", 2, 0b0101);
        freesIs("red 0 0, 0 4, 4 4, 4 0; centre 2 2;", 2, 0b0011);
        freesIs("red 4 4, 0 0, 0 4, 4 0; centre 2 2;", 2, 0b0101);
        freesIs("red 0 0, 4 0, 4 4, 0 4; centre 1 1;", 1, 0b0001);
        freesIs("red 0 0, 4 0, 4 4, 0 4; centre 3 3;", 1, 0b0100);
        // One at the centre, and the lesser of the two at its sides.
        freesIs("red 5 0, 0 0, -5 0;", 2, 0b011);
        freesIs("red -5 0, 5 0, 0 0;", 2, 0b101);
    }

    static void promise39FewestAheadOfLeast() {
        // The last one alone, though the first ones are less as a number.
        freesIs("red 1 0, 2 0, 3 0, -1 0;", 1, 0b1000);
        freesIs("red 1 1, 2 -1, 3 1, 3 -1, -1 0;", 1, 0b10000);
    }
}
