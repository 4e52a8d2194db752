import java.util.function.ToLongFunction;

/** The boundary cases of promises 30 to 35: sets that meet, that are apart, that are parted. */
public final class MeetingBoundariesTest {
    public static void main(String[] args) throws Exception {
        Cases.run(MeetingBoundariesTest.class);
    }

    private static final int SQUARE = 0b001111;
    private static final int LINE = 0b110000;

    /** A square, and a line that begins on its right side. */
    private static RainbowHulls touching() {
        return Cases.of("red 0 0, 4 0, 4 4, 0 4; blue 4 2, 8 2;");
    }

    /** The same, the line a step away. */
    private static RainbowHulls parted() {
        return Cases.of("red 0 0, 4 0, 4 4, 0 4; blue 5 2, 8 2;");
    }

    private static RainbowHulls seven() {
        return Cases.of("red 0 0, 6 0, 6 6, 0 6, 3 -2, 3 8, 2 3; green 9 9;");
    }

    /** Of six points: sets that there are not; the call answers otherwise for those that there are. */
    private static void sets(String call, ToLongFunction<Integer> answer, long none, int there) {
        Cases.dueAt(call, answer, none, 0, 64, 65, 127, 1 << 24, 1 << 30, -1, Cases.LOW, Cases.LOW + 1, Cases.HIGH);
        Cases.due(call + " at " + there + ": 1 if there is", answer.applyAsLong(there) == none ? 0 : 1, 1);
    }

    /** Bits of points that there are do not help, if there is one more. */
    private static void oneMore(String call, ToLongFunction<Integer> answer, long none, int there) {
        Cases.dueAt(call, answer, none, there | 1 << 6, there | 1 << 24, there | 1 << 30, there | Cases.LOW);
    }

    // ---- 30: meet ----

    static void promise30Sets() {
        RainbowHulls x = touching();
        sets("meet(set, line)", set -> x.meet(set, LINE), -2, SQUARE);
        sets("meet(square, set)", set -> x.meet(SQUARE, set), -2, LINE);
        Cases.due("meet(0, 0)", x.meet(0, 0), -2);
        Cases.due("without points", new RainbowHulls().meet(1, 1), -2);
        RainbowHulls full = Cases.of(Cases.many("red", 24, "1 1") + ";");
        Cases.due("all 24", full.meet(Cases.ALL_24, Cases.ALL_24), 1);
        Cases.due("the 24th", full.meet(1 << 23, 1 << 22), 1);
        Cases.due("a 25th", full.meet(1 << 24, 1), -2);
        Cases.due("a 25th", full.meet(1, 1 << 24), -2);
    }

    static void promise30SetsOfOneMore() {
        RainbowHulls x = touching();
        oneMore("meet(set, line)", set -> x.meet(set, LINE), -2, SQUARE);
        oneMore("meet(square, set)", set -> x.meet(SQUARE, set), -2, LINE);
    }

    static void promise30TheRimMeets() {
        RainbowHulls x = touching();
        int[][] places = {{3, 2, 1}, {4, 2, 1}, {5, 2, 0}, {4, 4, 1}, {4, 5, 0}, {5, 5, 0}, {4, 0, 1}, {4, -1, 0}};
        for (int[] p : places) {
            x.moves(4, p[0], p[1]);
            Cases.due("a line from " + p[0] + " " + p[1], x.meet(SQUARE, LINE), p[2]);
            Cases.due("the other way", x.meet(LINE, SQUARE), p[2]);
            Cases.due("one point", x.meet(SQUARE, 1 << 4), p[2]);
        }
    }

    static void promise30OneInTheOther() {
        RainbowHulls x = Cases.of("red -9 -9, 9 -9, 9 9, -9 9; blue 0 0, 1 0;");
        Cases.due("inside", x.meet(SQUARE, LINE), 1);
        Cases.due("around", x.meet(LINE, SQUARE), 1);
        Cases.due("one point inside", x.meet(SQUARE, 1 << 4), 1);
    }

    static void promise30OnePoint() {
        RainbowHulls x = Cases.of("red 3 3, 3 3, 3 4;");
        Cases.due("itself", x.meet(1, 1), 1);
        Cases.due("one place", x.meet(1, 2), 1);
        Cases.due("two places", x.meet(1, 4), 0);
    }

    static void promise30LinesWithoutAnArea() {
        RainbowHulls x = Cases.of("red 0 0, 4 2; blue 8 4, 6 3;");
        Cases.due("on one line, apart", x.meet(3, 12), 0);
        x.moves(3, 4, 2);
        Cases.due("on one line, end to end", x.meet(3, 12), 1);
        x.moves(3, 2, 1);
        Cases.due("on one line, a piece of both", x.meet(3, 12), 1);
        x.moves(2, 8, 5);
        x.moves(3, 0, 1);
        Cases.due("side by side", x.meet(3, 12), 0);
        x.moves(2, 3, 0);
        Cases.due("crossing", x.meet(3, 12), 1);
        x.moves(2, 1, 1);
        Cases.due("too short to cross", x.meet(3, 12), 0);
    }

    // ---- 31: meeting ----

    private static void meetingIs(RainbowHulls x, int set, int other, long... three) {
        Cases.dueAll("meeting(" + set + ", " + other + ", what)", w -> x.meeting(set, other, w), three);
        Cases.dueAll("meeting(" + other + ", " + set + ", what)", w -> x.meeting(other, set, w), three);
    }

    static void promise31Sets() {
        RainbowHulls x = touching();
        sets("meeting(set, line)", set -> x.meeting(set, LINE, 0), Cases.NO, SQUARE);
        sets("meeting(square, set)", set -> x.meeting(SQUARE, set, 0), Cases.NO, LINE);
        Cases.due("without points", new RainbowHulls().meeting(1, 1, 0), Cases.NO);
        RainbowHulls full = Cases.of(Cases.many("red", 24, "1 1") + ";");
        meetingIs(full, Cases.ALL_24, 1 << 23, 1, 1, 1);
        meetingIs(full, Cases.ALL_24, 1 << 24, Cases.NO, Cases.NO, Cases.NO);
    }

    static void promise31SetsOfOneMore() {
        RainbowHulls x = touching();
        oneMore("meeting(set, line)", set -> x.meeting(set, LINE, 0), Cases.NO, SQUARE);
        oneMore("meeting(square, set)", set -> x.meeting(SQUARE, set, 0), Cases.NO, LINE);
    }

    static void promise31OtherWhats() {
        RainbowHulls x = touching();
        Cases.dueAt("meeting", w -> x.meeting(SQUARE, LINE, w), Cases.NO, -1, 3, 4, Cases.LOW, Cases.HIGH);
    }

    static void promise31ThereIsNone() {
        meetingIs(touching(), SQUARE, LINE, 4, 2, 1);
        meetingIs(parted(), SQUARE, LINE, Cases.NO, Cases.NO, Cases.NO);
    }

    static void promise31TheLeastByXThenY() {
        // A side of both: its low end.
        RainbowHulls x = Cases.of("red 0 0, 4 0, 4 4, 0 4; blue 4 1, 4 3, 9 2;");
        meetingIs(x, 0b0001111, 0b1110000, 4, 1, 1);
        // Two squares: the left side of what they have in common.
        RainbowHulls y = Cases.of("red 0 0, 4 0, 4 4, 0 4; blue 2 -2, 6 -2, 6 2, 2 2;");
        meetingIs(y, 0b00001111, 0b11110000, 2, 0, 1);
        // Of itself its first corner.
        meetingIs(y, 0b00001111, 0b00001111, 0, 0, 1);
        meetingIs(y, 0b11110000, 0b11110000, 2, -2, 1);
        // Of one inside the other the inner one's first corner.
        meetingIs(Cases.of("red -9 -9, 9 -9, 0 9; blue 1 1, 0 0, 0 -1;"), 0b000111, 0b111000, 0, -1, 1);
    }

    static void promise31TheLeastByYOfBrokenPlaces() {
        // On the square's left side from 3/2 to 7/2.
        RainbowHulls x = Cases.of("red 0 0, 4 0, 4 4, 0 4; blue -3 1, 3 2, 3 6;");
        meetingIs(x, 0b0001111, 0b1110000, 0, 3, 2);
        // The same below 0.
        RainbowHulls y = Cases.of("red 0 0, 4 0, 4 -4, 0 -4; blue -3 -1, 3 -2, 3 -6;");
        meetingIs(y, 0b0001111, 0b1110000, 0, -7, 2);
    }

    static void promise31OnOneLine() {
        RainbowHulls x = Cases.of("red 0 0, 6 0; blue 9 0, 2 0;");
        meetingIs(x, 3, 12, 2, 0, 1);
        x.moves(3, 6, 0);
        meetingIs(x, 3, 12, 6, 0, 1);
        x.moves(3, 7, 0);
        meetingIs(x, 3, 12, Cases.NO, Cases.NO, Cases.NO);
        RainbowHulls up = Cases.of("red 0 6, 0 0; blue 0 2, 0 9;");
        meetingIs(up, 3, 12, 0, 2, 1);
    }

    static void promise31LowestTerms() {
        // y = x / 3 and y = 2 - 3 x.
        meetingIs(Cases.of("red 0 0, 3 1, 0 2, 1 -1;"), 3, 12, 3, 1, 5);
        meetingIs(Cases.of("red 0 0, -3 -1, 0 -2, -1 1;"), 3, 12, -3, -1, 5);
        // y = x and y = 4 - x: a whole place.
        meetingIs(Cases.of("red 0 0, 4 4, 0 4, 4 0;"), 3, 12, 2, 2, 1);
        // y = x and y = 1 - x.
        meetingIs(Cases.of("red 0 0, 4 4, -3 4, 4 -3;"), 3, 12, 1, 1, 2);
        // At 0, 0 the lower number is 1.
        meetingIs(Cases.of("red -3 -3, 3 3, -2 1, 2 -1;"), 3, 12, 0, 0, 1);
        // y = 39/40 (x + 20) - 20 and y = -x.
        meetingIs(Cases.of("red -20 -20, 20 19, 20 -20, -20 20;"), 3, 12, 20, -20, 79);
    }

    static void promise31TheLeastIsWhereTwoSidesCross() {
        // x + y = 5 and y = x / 2: the first side of one, the last of the other.
        meetingIs(Cases.of("red 0 5, 5 0, 8 9; blue 0 0, 8 -4, 6 3;"), 7, 56, 10, 5, 3);
        // y = (13 - x) / 4 and y = x - 2: the second side of one, the last of the other.
        meetingIs(Cases.of("red 0 9, 1 3, 9 1; blue 0 -2, 7 -3, 6 4;"), 7, 56, 21, 11, 5);
        // y = 10 - 2 x and y = (7 - x) / 2: the first side of one, the second of the other.
        meetingIs(Cases.of("red 2 6, 5 0, 9 8; blue 0 0, 9 -1, 1 3;"), 7, 56, 13, 4, 3);
    }

    static void promise31NoCornerOfOneIsInTheOther() {
        // A long one across a high one, whose left side x = (y - 9) / 18 has the long one's low side at y = 0.
        RainbowHulls x = Cases.of("red -9 0, 9 0, 9 1; blue -1 -9, 1 -9, 0 9;");
        Cases.due("meet", x.meet(7, 56), 1);
        apartIs(x, 7, 56, Cases.NO, Cases.NO, Cases.NO, Cases.NO, Cases.NO);
        meetingIs(x, 7, 56, -1, 0, 2);
    }

    // ---- 32: apart ----

    private static void apartIs(RainbowHulls x, int set, int other, long... five) {
        Cases.dueAll("apart(" + set + ", " + other + ", what)", w -> x.apart(set, other, w), five);
    }

    static void promise32SetsOfOneMore() {
        RainbowHulls x = parted();
        oneMore("apart(set, line)", set -> x.apart(set, LINE, 0), Cases.NO, SQUARE);
        oneMore("apart(square, set)", set -> x.apart(SQUARE, set, 0), Cases.NO, LINE);
    }

    static void promise32FromAnyCornerToASide() {
        // The right corner, the upper one, the left one, the low one; the side is on the way.
        apartIs(Cases.of("red 0 0, 4 1, 0 3; blue 6 -3, 6 5;"), 7, 24, 4, 1, 1, 0, 6);
        apartIs(Cases.of("red 0 0, 3 0, 1 4; blue -3 6, 5 6;"), 7, 24, 4, 1, 0, 1, 6);
        apartIs(Cases.of("red 0 1, 4 0, 4 3; blue -3 -3, -3 5;"), 7, 24, 9, 1, -1, 0, 3);
        apartIs(Cases.of("red 0 4, 3 4, 1 0; blue -3 -2, 5 -2;"), 7, 24, 4, 1, 0, -1, 2);
        // From 4 1 to x + 2 y = 16, 10/5 of 1, 2 away.
        apartIs(Cases.of("red 0 0, 4 1, 0 1; blue 0 8, 16 0;"), 7, 24, 20, 1, 1, 2, 16);
    }

    static void promise32Sets() {
        RainbowHulls x = parted();
        sets("apart(set, line)", set -> x.apart(set, LINE, 0), Cases.NO, SQUARE);
        sets("apart(square, set)", set -> x.apart(SQUARE, set, 0), Cases.NO, LINE);
        Cases.due("without points", new RainbowHulls().apart(1, 1, 0), Cases.NO);
        RainbowHulls full = Cases.of(Cases.many("red", 23, "1 1") + ", 2 1;");
        apartIs(full, Cases.ALL_24 >> 1, 1 << 23, 1, 1, 1, 0, 2);
        Cases.due("a 25th", full.apart(1, 1 << 24, 0), Cases.NO);
        Cases.due("a 25th", full.apart(1 << 24, 1, 0), Cases.NO);
    }

    static void promise32OtherWhats() {
        RainbowHulls x = parted();
        Cases.dueAt("apart", w -> x.apart(SQUARE, LINE, w), Cases.NO, -1, 5, 6, Cases.LOW, Cases.HIGH);
    }

    static void promise32TheyMeet() {
        apartIs(touching(), SQUARE, LINE, Cases.NO, Cases.NO, Cases.NO, Cases.NO, Cases.NO);
        apartIs(touching(), SQUARE, 0b111111, Cases.NO, Cases.NO, Cases.NO, Cases.NO, Cases.NO);
        apartIs(touching(), 1, 1, Cases.NO, Cases.NO, Cases.NO, Cases.NO, Cases.NO);
        apartIs(parted(), SQUARE, LINE, 1, 1, 1, 0, 5);
        RainbowHulls x = Cases.of("red 3 3, 3 3, 3 4;");
        apartIs(x, 1, 2, Cases.NO, Cases.NO, Cases.NO, Cases.NO, Cases.NO);
        apartIs(x, 1, 4, 1, 1, 0, 1, 4);
        // They cross, no corner of one in the other.
        apartIs(Cases.of("red 0 0, 4 4, 0 4, 4 0;"), 3, 12, Cases.NO, Cases.NO, Cases.NO, Cases.NO, Cases.NO);
    }

    static void promise32FromTheSetToTheOther() {
        apartIs(parted(), LINE, SQUARE, 1, 1, -1, 0, -4);
        RainbowHulls x = Cases.of("red 0 0; blue -4 6;");
        apartIs(x, 1, 2, 52, 1, -2, 3, 26);
        apartIs(x, 2, 1, 52, 1, 2, -3, 0);
    }

    static void promise32LowestTerms() {
        RainbowHulls x = Cases.of("red 0 0, 3 1; blue 1 -1;");
        apartIs(x, 4, 3, 8, 5, -1, 3, 0);
        apartIs(x, 3, 4, 8, 5, 1, -3, 4);
        apartIs(Cases.of("red 1 0, 0 1; blue 0 0;"), 4, 3, 1, 2, 1, 1, 1);
    }

    static void promise32SideBySide() {
        RainbowHulls x = Cases.of("red 0 0, 4 0, 4 4, 0 4; blue 7 1, 9 1, 9 9, 7 9;");
        apartIs(x, 0b00001111, 0b11110000, 9, 1, 1, 0, 7);
        RainbowHulls y = Cases.of("red 0 0, 4 2; blue 0 1, 4 3;");
        // One line is the other, 1 up: 4/5 squared, the direction -1, 2.
        apartIs(y, 3, 12, 4, 5, -1, 2, 2);
        apartIs(y, 12, 3, 4, 5, 1, -2, 0);
    }

    static void promise32CornerToCorner() {
        RainbowHulls x = Cases.of("red 0 0, 4 0, 4 4, 0 4; blue 6 7, 9 7, 9 9;");
        apartIs(x, 0b0001111, 0b1110000, 13, 1, 2, 3, 33);
    }

    static void promise32TheFarthest() {
        RainbowHulls x = Cases.of("red -20 -20, 20 20, -20 20, 20 -20;");
        apartIs(x, 1, 2, 3200, 1, 1, 1, 40);
        apartIs(x, 2, 1, 3200, 1, -1, -1, 40);
        apartIs(x, 4, 8, 3200, 1, 1, -1, 40);
        apartIs(x, 1, 8, 1600, 1, 1, 0, 20);
    }

    // ---- 33: partings ----

    static void promise33Sets() {
        RainbowHulls x = touching();
        sets("partings(set, 2, 0)", set -> x.partings(set, 2, 0), -2, 63);
        sets("partings(set, 3, 1)", set -> x.partings(set, 3, 1), -2, 1);
        Cases.due("without points", new RainbowHulls().partings(1, 2, 1), -2);
        RainbowHulls full = Cases.of(Cases.many("red", 24, "1 1") + ";");
        Cases.due("the last seven", full.partings(127 << 17, 2, 1), 63);
        Cases.due("a 25th", full.partings(127 << 18, 2, 1), -2);
    }

    static void promise33SevenAtMost() {
        RainbowHulls x = seven();
        for (int r = 2; r <= 3; r++) {
            Cases.due("six", x.partings(63, r, 1), r == 2 ? 31 : 90);
            Cases.due("seven", x.partings(127, r, 1), r == 2 ? 63 : 301);
            Cases.due("seven others", x.partings(254, r, 1), r == 2 ? 63 : 301);
            Cases.due("seven, met", x.partings(127, r, 0), r == 2 ? 42 : 7);
            Cases.due("eight", x.partings(255, r, 1), -2);
            Cases.due("eight, met", x.partings(255, r, 0), -2);
        }
        Cases.due("24", Cases.of(Cases.many("red", 24, "1 1") + ";").partings(Cases.ALL_24, 2, 0), -2);
    }

    static void promise33TwoPartsOrThree() {
        RainbowHulls x = seven();
        Cases.dueAt("partings(15, r, 1)", r -> x.partings(15, r, 1), -2, -1, 0, 1, 4, 5, Cases.LOW, Cases.HIGH);
        Cases.dueAt("partings(15, r, 0)", r -> x.partings(15, r, 0), -2, -1, 0, 1, 4, 5, Cases.LOW, Cases.HIGH);
        Cases.due("partings(15, 2, 1)", x.partings(15, 2, 1), 7);
        Cases.due("partings(15, 3, 1)", x.partings(15, 3, 1), 6);
    }

    static void promise33NoneEmpty() {
        RainbowHulls x = Cases.of("red 1 1, 1 1, 1 1;");
        Cases.dueAll("one in two", w -> x.partings(1, 2, w), 0, 0);
        Cases.dueAll("two in two", w -> x.partings(3, 2, w), 1, 1);
        Cases.dueAll("three in two", w -> x.partings(7, 2, w), 3, 3);
        Cases.dueAll("one in three", w -> x.partings(1, 3, w), 0, 0);
        Cases.dueAll("two in three", w -> x.partings(3, 3, w), 0, 0);
        Cases.dueAll("three in three", w -> x.partings(7, 3, w), 1, 1);
    }

    static void promise33OtherWhats() {
        RainbowHulls x = seven();
        Cases.dueAt("partings(15, 2, what)", w -> x.partings(15, 2, w), -2, -1, 2, 3, Cases.LOW, Cases.HIGH);
    }

    static void promise33MetAtTheRim() {
        RainbowHulls x = Cases.of("red 0 0, 4 0, 2 0, 2 5;");
        // The third lies between the first two: 001, and with the fourth on either side 0010, 0011.
        Cases.dueAll("on one line", w -> x.partings(7, 2, w), 1, 3);
        Cases.dueAll("with a fourth", w -> x.partings(15, 2, w), 2, 7);
        x.moves(2, 2, -1);
        Cases.dueAll("beside the line", w -> x.partings(7, 2, w), 0, 3);
    }

    // ---- 34: part ----

    static void promise34Sets() {
        RainbowHulls x = Cases.of(Cases.many("red", 6, "1 1") + ";");
        sets("part(set, 2, 0, 0)", set -> x.part(set, 2, 0, 0), -2, 63);
        Cases.due("without points", new RainbowHulls().part(1, 2, 0, 0), -2);
        RainbowHulls full = Cases.of(Cases.many("red", 24, "1 1") + ";");
        Cases.due("the last two", full.part(3 << 22, 2, 0, 1), 1 << 23);
        Cases.due("eight", full.part(255, 2, 0, 0), -2);
        Cases.due("seven", full.part(127, 2, 0, 1), 64);
        Cases.due("a 25th", full.part(3 << 23, 2, 0, 0), -2);
    }

    static void promise34InOrderOfTheRows() {
        RainbowHulls x = Cases.of("red 1 1, 1 1, 1 1, 1 1;");
        // 0001, 0010, 0011, 0100, 0101, 0110, 0111.
        Cases.dueAll("part 1 of two", k -> x.part(15, 2, k, 1), 8, 4, 12, 2, 10, 6, 14, -1);
        Cases.dueAll("part 0 of two", k -> x.part(15, 2, k, 0), 7, 11, 3, 13, 5, 9, 1, -1);
        // 0012, 0102, 0112, 0120, 0121, 0122.
        Cases.dueAll("part 0 of three", k -> x.part(15, 3, k, 0), 3, 5, 1, 9, 1, 1, -1);
        Cases.dueAll("part 1 of three", k -> x.part(15, 3, k, 1), 4, 2, 6, 2, 10, 2, -1);
        Cases.dueAll("part 2 of three", k -> x.part(15, 3, k, 2), 8, 8, 8, 4, 4, 12, -1);
    }

    static void promise34NotSoMany() {
        RainbowHulls x = seven();
        Cases.dueAll("part(127, 3, 0, part)", p -> x.part(127, 3, 0, p), 35, 28, 64, -2);
        Cases.dueAll("part(127, 3, 6, part)", p -> x.part(127, 3, 6, p), 49, 10, 68, -2);
        Cases.dueAll("part(127, 3, 7, part)", p -> x.part(127, 3, 7, p), -1, -1, -1, -2);
        Cases.dueAll("part(127, 2, 40, part)", p -> x.part(127, 2, 40, p), 33, 94, -2);
        Cases.dueAll("part(127, 2, 41, part)", p -> x.part(127, 2, 41, p), 65, 62, -2);
        Cases.dueAll("part(127, 2, 42, part)", p -> x.part(127, 2, 42, p), -1, -1, -2);
        Cases.due("part(127, 2, max, 0)", x.part(127, 2, Cases.HIGH, 0), -1);
        Cases.due("fewer points than parts", x.part(1, 2, 0, 0), -1);
        Cases.due("fewer points than parts", x.part(3, 3, 0, 2), -1);
    }

    static void promise34BelowZero() {
        RainbowHulls x = seven();
        Cases.dueAt("part(127, 2, k, 0)", k -> x.part(127, 2, k, 0), -2, -1, -2, Cases.LOW);
    }

    static void promise34NoSuchPart() {
        RainbowHulls x = seven();
        Cases.dueAt("part(127, 2, 0, part)", p -> x.part(127, 2, 0, p), -2, -1, 2, 3, Cases.LOW, Cases.HIGH);
        Cases.dueAt("part(127, 3, 0, part)", p -> x.part(127, 3, 0, p), -2, -1, 3, Cases.LOW, Cases.HIGH);
        Cases.due("not so many either", x.part(127, 2, 99, 2), -2);
    }

    static void promise34TwoPartsOrThree() {
        RainbowHulls x = seven();
        Cases.dueAt("part(127, r, 0, 0)", r -> x.part(127, r, 0, 0), -2, -1, 0, 1, 4, Cases.LOW, Cases.HIGH);
    }

    // ---- 35: met ----

    private static void metIs(RainbowHulls x, int set, int r, int k, long... three) {
        Cases.dueAll("met(" + set + ", " + r + ", " + k + ", what)", w -> x.met(set, r, k, w), three);
    }

    static void promise35Sets() {
        RainbowHulls x = Cases.of(Cases.many("red", 6, "1 1") + ";");
        sets("met(set, 2, 0, 0)", set -> x.met(set, 2, 0, 0), Cases.NO, 63);
        Cases.due("without points", new RainbowHulls().met(1, 2, 0, 0), Cases.NO);
        RainbowHulls full = Cases.of(Cases.many("red", 24, "1 1") + ";");
        Cases.due("the last two", full.met(3 << 22, 2, 0, 0), 1);
        Cases.due("eight", full.met(255, 2, 0, 0), Cases.NO);
        Cases.due("seven", full.met(127, 2, 0, 0), 1);
        Cases.due("a 25th", full.met(3 << 23, 2, 0, 0), Cases.NO);
    }

    static void promise35OtherWhats() {
        RainbowHulls x = seven();
        Cases.dueAt("met(127, 3, 0, what)", w -> x.met(127, 3, 0, w), Cases.NO, -1, 3, 4, Cases.LOW, Cases.HIGH);
    }

    static void promise35NotSoMany() {
        RainbowHulls x = seven();
        metIs(x, 127, 3, 0, 2, 3, 1);
        metIs(x, 127, 3, 6, 18, 24, 7);
        metIs(x, 127, 3, 7, Cases.NO, Cases.NO, Cases.NO);
        metIs(x, 127, 2, 40, 9, 24, 8);
        metIs(x, 127, 2, 41, 36, 54, 25);
        metIs(x, 127, 2, 42, Cases.NO, Cases.NO, Cases.NO);
        Cases.due("met(127, 2, max, 0)", x.met(127, 2, Cases.HIGH, 0), Cases.NO);
        Cases.due("fewer points than parts", x.met(1, 2, 0, 0), Cases.NO);
    }

    static void promise35BelowZero() {
        RainbowHulls x = seven();
        Cases.dueAt("met(127, 2, k, 0)", k -> x.met(127, 2, k, 0), Cases.NO, -1, -2, Cases.LOW);
    }

    static void promise35TwoPartsOrThree() {
        RainbowHulls x = seven();
        Cases.dueAt("met(127, r, 0, 0)", r -> x.met(127, r, 0, 0), Cases.NO, -1, 0, 1, 4, Cases.LOW, Cases.HIGH);
    }

    static void promise35LowestTerms() {
        metIs(Cases.of("red 0 0, 3 1, 0 2, 1 -1;"), 15, 2, 0, 3, 1, 5);
        metIs(Cases.of("red 0 0, 1 0, 0 -1, 1 1, 0 1, 1 2;"), 63, 3, 0, 1, 1, 2);
        metIs(Cases.of("red 0 0, 4 0, 4 4, 0 4;"), 15, 2, 0, 2, 2, 1);
    }

    static void promise35WhereTwoOfThreeCross() {
        // (0, 0) (3, 1) and (0, 2) (1, -1) cross, a wide triangle is around them.
        RainbowHulls firstThird = Cases.of("red 0 0, -20 -20, 20 -20, 0 20, 3 1, 0 2, 1 -1;");
        Cases.dueAll("part(127, 3, 2, part)", p -> firstThird.part(127, 3, 2, p), 0b0010001, 0b0001110, 0b1100000);
        metIs(firstThird, 127, 3, 2, 3, 1, 5);
        RainbowHulls secondThird = Cases.of("red -20 -20, 20 -20, 0 20, 0 0, 3 1, 0 2, 1 -1;");
        Cases.dueAll("part(127, 3, 0, part)", p -> secondThird.part(127, 3, 0, p), 0b0000111, 0b0011000, 0b1100000);
        metIs(secondThird, 127, 3, 0, 3, 1, 5);
        RainbowHulls firstSecond = Cases.of("red 0 0, 0 2, 3 1, 1 -1, -20 -20, 20 -20, 0 20;");
        Cases.dueAll("part(127, 3, 1, part)", p -> firstSecond.part(127, 3, 1, p), 0b0000101, 0b0001010, 0b1110000);
        metIs(firstSecond, 127, 3, 1, 3, 1, 5);
    }

    static void promise35TheLeastByXThenY() {
        // On one upright line those that meet are 0010, 0100, 0101 and 0110, in this order.
        RainbowHulls x = Cases.of("red 5 0, 5 1, 5 2, 5 3;");
        Cases.due("part 1 of the first", x.part(15, 2, 0, 1), 4);
        metIs(x, 15, 2, 0, 5, 2, 1);
        Cases.due("part 1 of the third", x.part(15, 2, 2, 1), 10);
        metIs(x, 15, 2, 2, 5, 1, 1);
    }
}
