/** The boundary cases of promises 17 to 22: ties, loads, how they are reduced. */
public final class LoadBoundariesTest {
    private static final int[] NO_SETS_OF_SIX = {0, 64, 65, 127, 1 << 24, -1, Cases.LOW, Cases.LOW + 3, Cases.HIGH};

    public static void main(String[] args) throws Exception {
        Cases.run(LoadBoundariesTest.class);
    }

    private static RainbowHulls six() {
        return Cases.of("red 0 0, 6 0, 4 0, 0 3, 1 1, 0 0;");
    }

    private static void tieIs(RainbowHulls x, int set, long... factors) {
        Cases.dueAll("tie(" + set + ", point)", p -> x.tie(set, p), factors);
    }

    private static void radonIs(RainbowHulls x, int set, long... five) {
        Cases.dueAll("radon(" + set + ", what)", w -> x.radon(set, w), five);
    }

    // ---- 17: tie ----

    static void promise17Sets() {
        RainbowHulls x = six();
        Cases.dueAt("tie(set, 0)", set -> x.tie(set, 0), Cases.NO, NO_SETS_OF_SIX);
        tieIs(x, 63, -1, -2, 3, 0, 0, 0, Cases.NO);
        Cases.due("without points", new RainbowHulls().tie(1, 0), Cases.NO);
        RainbowHulls full = Cases.of(Cases.many("red", 24, "1 1") + ";");
        Cases.due("the last two", full.tie(3 << 22, 22), -1);
        Cases.due("the last two", full.tie(3 << 22, 23), 1);
        Cases.due("all", full.tie(Cases.ALL_24, 1), 1);
        Cases.due("all", full.tie(Cases.ALL_24, 23), 0);
        Cases.due("beyond all", full.tie(Cases.ALL_24 + (1 << 24), 1), Cases.NO);
    }

    static void promise17Points() {
        RainbowHulls x = six();
        Cases.dueAt("tie(63, point)", p -> x.tie(63, p), Cases.NO, -1, 6, 24, Cases.LOW, Cases.HIGH);
        Cases.due("the last one", x.tie(63, 5), 0);
    }

    static void promise17NotOfTheSet() {
        RainbowHulls x = six();
        // (1, 1) = 1/2 (0, 0) + 1/6 (6, 0) + 1/3 (0, 3).
        tieIs(x, 0b011011, -3, -1, 0, -2, 6, 0, Cases.NO);
    }

    static void promise17NoTie() {
        RainbowHulls x = six();
        tieIs(x, 0b000001, Cases.NO, Cases.NO, Cases.NO, Cases.NO, Cases.NO, Cases.NO);
        tieIs(x, 0b000011, Cases.NO, Cases.NO, Cases.NO);
        tieIs(x, 0b001011, Cases.NO, Cases.NO, Cases.NO, Cases.NO);
    }

    static void promise17TwoAtOnePlaceOrNot() {
        RainbowHulls x = Cases.of("red 5 5, 5 5, 5 6, 6 5;");
        tieIs(x, 0b0011, -1, 1, 0, 0);
        tieIs(x, 0b0101, Cases.NO);
        tieIs(x, 0b1001, Cases.NO);
    }

    static void promise17ThreeOnOneLineOrNot() {
        RainbowHulls x = Cases.of("red 0 0, 3 0, 1 0, 1 1, 5 0, -1 0;");
        // Between, beyond the second, beyond the first.
        tieIs(x, 0b000111, -2, -1, 3, 0, 0, 0);
        tieIs(x, 0b010011, 2, -5, 0, 0, 3, 0);
        tieIs(x, 0b100011, -4, 1, 0, 0, 0, 3);
        tieIs(x, 0b001011, Cases.NO);
    }

    static void promise17ThreeOnAnUprightLineOnASlope() {
        tieIs(Cases.of("red 2 0, 2 3, 2 1, 2 5;"), 0b0111, -2, -1, 3, 0);
        tieIs(Cases.of("red 2 5, 2 8, 2 6;"), 7, -2, -1, 3);
        tieIs(Cases.of("red 2 -3, 2 5, 2 -8;"), 7, -13, 5, 8);
        tieIs(Cases.of("red 1 -1, 7 8, 3 2;"), 7, -2, -1, 3);
        tieIs(Cases.of("red 1 8, 7 -1, 3 5;"), 7, -2, -1, 3);
        tieIs(Cases.of("red 1 8, 3 5, 7 -1;"), 7, 2, -3, 1);
        tieIs(Cases.of("red 1 8, 3 5, 7 0;"), 7, Cases.NO, Cases.NO, Cases.NO);
    }

    static void promise17FourOfTheLeastArea() {
        tieIs(Cases.of("red 0 0, 1 0, 0 1, 1 1;"), 15, 1, -1, -1, 1);
        tieIs(Cases.of("red 0 0, 0 1, 1 0, 1 1;"), 15, 1, -1, -1, 1);
        tieIs(Cases.of("red 0 0, 0 1, 1 0, 3 -5;"), 15, -3, 5, -3, 1);
    }

    static void promise17FourAlwaysHaveOne() {
        tieIs(Cases.of("red 0 0, 1 2, 3 0, 3 1;"), 15, 2, -3, -5, 6);
        // A square's corners round about.
        tieIs(Cases.of("red 0 0, 4 0, 4 4, 0 4;"), 15, -1, 1, -1, 1);
        // The same corners clockwise.
        tieIs(Cases.of("red 0 0, 0 4, 4 4, 4 0;"), 15, -1, 1, -1, 1);
    }

    static void promise17ThoseThatAreNotNeeded() {
        tieIs(Cases.of("red 0 0, 3 0, 0 0;"), 7, -1, 0, 1);
        tieIs(Cases.of("red 0 0, 3 0, 3 0;"), 7, 0, -1, 1);
        tieIs(Cases.of("red 0 0, 4 0, 0 4, 2 0;"), 15, -1, -1, 0, 2);
        tieIs(Cases.of("red 0 0, 4 0, 0 4, 0 4;"), 15, 0, 0, -1, 1);
        tieIs(Cases.of("red 0 0, 4 0, 0 4, 5 -1;"), 15, 0, -5, 1, 4);
    }

    static void promise17TheFirstOneAlone() {
        // The third has one already; the fourth, the fifth are not looked at.
        tieIs(Cases.of("red 0 0, 4 0, 2 0, 2 0, 0 0;"), 31, -1, -1, 2, 0, 0);
        // None of the first three; the fourth has one, the fifth is not looked at.
        tieIs(Cases.of("red 0 0, 4 0, 0 4, 4 4, 0 0;"), 31, 1, -1, -1, 1, 0);
    }

    static void promise17WithoutACommonDivisor() {
        tieIs(Cases.of("red 0 0, 20 0, 10 0;"), 7, -1, -1, 2);
        tieIs(Cases.of("red -20 -20, 20 -20, -20 20, 20 20;"), 15, 1, -1, -1, 1);
    }

    static void promise17TheGreatestNumbers() {
        tieIs(Cases.of("red -20 -20, 20 -20, -19 20, 20 19;"), 15, 1521, -1561, -1560, 1600);
        tieIs(Cases.of("red -20 0, 20 0, 19 0;"), 7, -1, -39, 40);
        tieIs(Cases.of("red -20 0, -19 0, 20 0;"), 7, 39, -40, 1);
    }

    // ---- 18: radon ----

    static void promise18Sets() {
        RainbowHulls x = six();
        Cases.dueAt("radon(set, 0)", set -> x.radon(set, 0), Cases.NO, NO_SETS_OF_SIX);
        Cases.due("radon(63, 0)", x.radon(63, 0), 0b100);
        Cases.due("without points", new RainbowHulls().radon(1, 0), Cases.NO);
        RainbowHulls full = Cases.of(Cases.many("red", 24, "1 1") + ";");
        radonIs(full, 3 << 22, 1 << 23, 1 << 22, 1, 1, 1, Cases.NO);
        radonIs(full, Cases.ALL_24, 2, 1, 1, 1, 1, Cases.NO);
    }

    static void promise18OtherWhats() {
        RainbowHulls x = six();
        radonIs(x, 63, 0b100, 0b011, 4, 0, 1);
        Cases.dueAt("radon(63, what)", w -> x.radon(63, w), Cases.NO, -1, 5, 6, Cases.LOW, Cases.LOW + 1, Cases.HIGH);
    }

    static void promise18NoTie() {
        RainbowHulls x = six();
        radonIs(x, 0b000001, Cases.NO, Cases.NO, Cases.NO, Cases.NO, Cases.NO);
        radonIs(x, 0b001011, Cases.NO, Cases.NO, Cases.NO, Cases.NO, Cases.NO);
    }

    static void promise18ZeroIsOfNeither() {
        radonIs(Cases.of("red 0 0, 4 0, 0 4, 2 0;"), 15, 0b1000, 0b0011, 2, 0, 1);
        radonIs(Cases.of("red 0 0, 3 0, 3 0;"), 7, 0b100, 0b010, 3, 0, 1);
    }

    static void promise18LowestTerms() {
        // 2 of (0, 0), 6 of (3, 1): 18/8, 6/8.
        radonIs(Cases.of("red 0 0, 1 2, 3 0, 3 1;"), 15, 0b1001, 0b0110, 9, 3, 4);
        // 39 of (-20, -20), 40 of (19, 20).
        radonIs(Cases.of("red -20 -20, 20 -20, -20 20, 19 20;"), 15, 0b1001, 0b0110, -20, 20, 79);
        // At 0, 0 the lower number is 1.
        radonIs(Cases.of("red -5 0, 0 -5, 5 0, 0 5;"), 15, 0b1010, 0b0101, 0, 0, 1);
    }

    // ---- 19: balance ----

    private static void balanceIs(RainbowHulls x, long... three) {
        Cases.dueAll("balance", x::balance, three);
    }

    static void promise19NoLoads() {
        balanceIs(new RainbowHulls(), Cases.NO, Cases.NO, Cases.NO);
        RainbowHulls x = Cases.of("red 1 1, 2 2; blue 3 3 load 0;");
        balanceIs(x, Cases.NO, Cases.NO, Cases.NO);
        x.loads(1, 1);
        balanceIs(x, 2, 2, 1);
        x.loads(1, 0);
        balanceIs(x, Cases.NO, Cases.NO, Cases.NO);
    }

    static void promise19OtherWhats() {
        RainbowHulls x = Cases.of("red 1 1 load 5;");
        Cases.dueAt("balance", x::balance, Cases.NO, -1, 3, 4, Cases.LOW, Cases.HIGH);
    }

    static void promise19LowestTerms() {
        balanceIs(Cases.of("red 20 -20 load 99;"), 20, -20, 1);
        balanceIs(Cases.of("red 0 0 load 99; blue 20 0 load 1;"), 1, 0, 5);
        balanceIs(Cases.of("red -5 5 load 3; blue 5 -5 load 3;"), 0, 0, 1);
        balanceIs(Cases.of("red -1 0 load 2; blue 0 -1 load 1; green 19 19;"), -2, -1, 3);
    }

    static void promise19MoreThanSixToo() {
        balanceIs(Cases.of(Cases.many("red", 24, "20 -20") + " load 99;"), 20, -20, 1);
        balanceIs(Cases.of(Cases.many("red", 6, "0 0") + ", 7 14 load 1;"), 1, 2, 1);
    }

    // ---- 20: steps ----

    static void promise20NoLoads() {
        Cases.due("without points", new RainbowHulls().steps(), -2);
        RainbowHulls x = Cases.of("red 1 1, 1 1;");
        Cases.due("without loads", x.steps(), -2);
        x.loads(1, 1);
        Cases.due("one load", x.steps(), 0);
        x.loads(0, 1);
        Cases.due("two at one place", x.steps(), 1);
    }

    static void promise20SixAtMost() {
        RainbowHulls x = Cases.of(Cases.many("red", 6, "3 3") + " load 7; green 3 3, 4 4;");
        Cases.due("six", x.steps(), 5);
        x.loads(6, 1);
        Cases.due("seven", x.steps(), -5);
        x.loads(0, 0);
        Cases.due("six again", x.steps(), 5);
        x.loads(0, 99);
        x.loads(7, 99);
        Cases.due("eight", x.steps(), -5);
        Cases.due("24", Cases.of(Cases.many("red", 24, "3 3") + " load 1;").steps(), -5);
    }

    static void promise20NoTieNoStep() {
        Cases.due("two", Cases.of("red 0 0, 1 0 load 5;").steps(), 0);
        Cases.due("three, none on one line", Cases.of("red 0 0, 1 0, 0 1 load 5;").steps(), 0);
        Cases.due("three on one line", Cases.of("red 0 0, 1 0, 2 0 load 5;").steps(), 1);
        Cases.due("four", Cases.of("red 0 0, 1 0, 0 1, 9 7 load 5;").steps(), 1);
        Cases.due("points without a load", Cases.of("red 0 0, 1 0 load 5; blue 2 0, 0 0;").steps(), 0);
    }

    // ---- 21: weight; 22: left ----

    /** On one line at 0 .. 5: 0 and 2 go at once, then 4, then 5. */
    private static RainbowHulls line() {
        return Cases.of("red 0 0, 1 0, 2 0, 3 0, 4 0, 5 0 load 7; green 9 9;");
    }

    private static void weightsAre(RainbowHulls x, int k, long... pairs) {
        for (int i = 0; i + 1 < pairs.length; i += 2) {
            Cases.due("weight(" + i / 2 + ", " + k + ", 0)", x.weight(i / 2, k, 0), pairs[i]);
            Cases.due("weight(" + i / 2 + ", " + k + ", 1)", x.weight(i / 2, k, 1), pairs[i + 1]);
        }
    }

    static void promise21EachStepInLowestTerms() {
        RainbowHulls x = line();
        weightsAre(x, 0, 1, 6, 1, 6, 1, 6, 1, 6, 1, 6, 1, 6, 0, 1);
        weightsAre(x, 1, 0, 1, 1, 2, 0, 1, 1, 6, 1, 6, 1, 6, 0, 1);
        weightsAre(x, 2, 0, 1, 5, 12, 0, 1, 5, 12, 0, 1, 1, 6, 0, 1);
        weightsAre(x, 3, 0, 1, 1, 4, 0, 1, 3, 4, 0, 1, 0, 1, 0, 1);
    }

    static void promise21StepsFrom0ToSteps() {
        RainbowHulls x = line();
        Cases.due("steps()", x.steps(), 3);
        Cases.dueAt("weight(1, k, 0)", k -> x.weight(1, k, 0), Cases.NO, -1, 4, 5, 6, 7, Cases.LOW, Cases.HIGH);
        Cases.due("weight(1, 3, 0)", x.weight(1, 3, 0), 1);
        RainbowHulls one = Cases.of("red 5 5 load 9;");
        weightsAre(one, 0, 1, 1);
        Cases.due("weight(0, 1, 0)", one.weight(0, 1, 0), Cases.NO);
    }

    static void promise21FiveSteps() {
        RainbowHulls x = Cases.of(Cases.many("red", 6, "3 3") + " load 7;");
        Cases.due("weight(0, 5, 0)", x.weight(0, 5, 0), 1);
        Cases.due("weight(0, 5, 1)", x.weight(0, 5, 1), 1);
        Cases.due("weight(0, 6, 0)", x.weight(0, 6, 0), Cases.NO);
        Cases.due("weight(0, 7, 0)", x.weight(0, 7, 0), Cases.NO);
    }

    static void promise21PointsAndWhats() {
        RainbowHulls x = line();
        Cases.dueAt("weight(point, 0, 0)", p -> x.weight(p, 0, 0), Cases.NO, -1, 7, 24, Cases.LOW, Cases.HIGH);
        Cases.dueAt("weight(0, 0, what)", w -> x.weight(0, 0, w), Cases.NO, -1, 2, 3, Cases.LOW, Cases.HIGH);
        Cases.due("weight(5, 0, 1)", x.weight(5, 0, 1), 6);
        Cases.due("one without a load", x.weight(6, 0, 0), 0);
        Cases.due("one without a load", x.weight(6, 3, 1), 1);
    }

    static void promise21NoLoadsMoreThanSix() {
        RainbowHulls x = line();
        x.loads(6, 1);
        Cases.due("seven", x.weight(0, 0, 0), Cases.NO);
        x.loads(6, 0);
        Cases.due("six", x.weight(0, 0, 0), 1);
        for (int p = 0; p < 6; p++) {
            x.loads(p, 0);
        }
        Cases.due("none", x.weight(0, 0, 0), Cases.NO);
        Cases.due("without points", new RainbowHulls().weight(0, 0, 0), Cases.NO);
    }

    static void promise21NoneBelowZero() {
        // The tie -1, 1, -1, 1: the second has less than the fourth, 2 of 19 are taken.
        RainbowHulls x = Cases.of("red 0 0 load 5; red 4 0 load 2; red 4 4 load 5; red 0 4 load 7;");
        weightsAre(x, 1, 7, 19, 0, 1, 7, 19, 5, 19);
        // Now the fourth has less.
        x.loads(3, 1);
        weightsAre(x, 1, 6, 13, 1, 13, 6, 13, 0, 1);
    }

    static void promise21TheFirstOneIsUsedUp() {
        // The tie 1, -1, -1, 1.
        RainbowHulls x = Cases.of("red 0 0 load 2; red 4 0 load 5; red 0 4 load 5; red 4 4 load 7;");
        weightsAre(x, 1, 0, 1, 7, 19, 7, 19, 5, 19);
        Cases.dueAll("left", x::left, 0b1111, 0b1110, -2);
    }

    static void promise21ByHowMuchOfEachIsTaken() {
        // The tie 2, -3, -5, 6: 3 / 2 is less than 10 / 6, the same as 9 / 6, more than 8 / 6.
        RainbowHulls x = Cases.of("red 0 0 load 3; red 1 2 load 1; red 3 0 load 1; red 3 1 load 10;");
        Cases.dueAll("left, the first goes", x::left, 0b1111, 0b1110, -2);
        weightsAre(x, 1, 0, 1, 11, 30, 17, 30, 1, 15);
        x.loads(3, 9);
        Cases.dueAll("left, both go", x::left, 0b1111, 0b0110, -2);
        weightsAre(x, 1, 0, 1, 11, 28, 17, 28, 0, 1);
        x.loads(3, 8);
        Cases.dueAll("left, the fourth goes", x::left, 0b1111, 0b0111, -2);
        weightsAre(x, 1, 1, 39, 5, 13, 23, 39, 0, 1);
    }

    static void promise21TheGreatestNumbers() {
        // The tie is 1521, -1561, -1560, 1600; 99 / 1600 < 99 / 1521: the fourth goes, of 396.
        RainbowHulls x = Cases.of("red -20 -20, 20 -20, -19 20, 20 19 load 99;");
        weightsAre(x, 1, 79, 6400, 3161, 6400, 79, 160, 0, 1);
    }

    static void promise22StepsFrom0ToSteps() {
        RainbowHulls x = line();
        Cases.dueAll("left", x::left, 0b111111, 0b111010, 0b101010, 0b001010, -2, -2, -2, -2);
        Cases.dueAt("left", x::left, -2, -1, Cases.LOW, Cases.HIGH);
        RainbowHulls one = Cases.of("red 5 5, 6 6 load 9; blue 1 1;");
        Cases.dueAll("left", one::left, 0b011, -2);
    }

    static void promise22TwoOutAtOnce() {
        RainbowHulls x = Cases.of("red 0 0, 4 0, 4 4, 0 4 load 3;");
        Cases.dueAll("left", x::left, 0b1111, 0b0101, -2);
        x.loads(1, 2);
        Cases.dueAll("left", x::left, 0b1111, 0b1101, -2);
        x.loads(1, 4);
        Cases.dueAll("left", x::left, 0b1111, 0b0111, -2);
    }

    static void promise22FiveSteps() {
        RainbowHulls x = Cases.of(Cases.many("red", 6, "3 3") + " load 7;");
        Cases.dueAll("left", x::left, 0b111111, 0b111101, 0b111001, 0b110001, 0b100001, 0b000001, -2, -2);
    }

    static void promise22WhichRefusalFirst() {
        RainbowHulls none = Cases.of("red 1 1;");
        Cases.dueAt("left, no loads", none::left, -2, -1, 0, 1, Cases.LOW, Cases.HIGH);
        RainbowHulls seven = Cases.of(Cases.many("red", 7, "3 3") + " load 7;");
        Cases.dueAt("left of seven, k below 0", seven::left, -2, -1, Cases.LOW);
        Cases.dueAt("left of seven", seven::left, -5, 0, 1, 6, 7, Cases.HIGH);
        RainbowHulls six = Cases.of(Cases.many("red", 6, "3 3") + " load 7;");
        Cases.dueAt("left of six, k above steps()", six::left, -2, 6, 7, Cases.HIGH);
    }

    static void promise22TheHighestBit() {
        RainbowHulls x = Cases.of(Cases.many("red", 24, "3 3") + ";");
        x.loads(23, 1);
        Cases.dueAll("left", x::left, 1 << 23, -2);
        x.loads(22, 1);
        Cases.dueAll("left", x::left, 3 << 22, 1 << 22, -2);
    }
}
