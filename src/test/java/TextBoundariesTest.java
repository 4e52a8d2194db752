import java.util.function.Supplier;

/** The boundary cases of promises 1 to 8, of texts, and of "at most 512 calls". */
public final class TextBoundariesTest {
    private static final int BLANKS = 0x20202020;
    /** 24 points, 99 bytes, the line's end still to come. */
    private static final String FULL = Cases.many("red", 24, "0 0");

    public static void main(String[] args) throws Exception {
        Cases.run(TextBoundariesTest.class);
    }

    // ---- what the helpers of this file are for ----

    private static RainbowHulls blank(int bytes) {
        RainbowHulls x = new RainbowHulls();
        for (int i = 0; i < bytes; i += 20) {
            x.feed(BLANKS, BLANKS, BLANKS, BLANKS, BLANKS);
        }
        x.end(bytes);
        return x;
    }

    private static RainbowHulls before() {
        return Cases.of("blue 7 8 load 9; green -1 -2; centre 3 -4;");
    }

    /** The text has this fault at this place; the points and the centre that there were stay, the tape is empty. */
    private static void faulty(String text, int fault, int place) {
        String told = text.length() > 60 ? ".." + text.substring(text.length() - 40) : text;
        RainbowHulls x = before();
        Cases.tape(x, text);
        Cases.due("points() of '" + told + "'", x.points(), -4);
        Cases.due("fault(0) of '" + told + "'", x.fault(0), fault);
        Cases.due("fault(1) of '" + told + "'", x.fault(1), place);
        Cases.due("count(0)", x.count(0), 2);
        Cases.dueAll("point(0, what)", w -> x.point(0, w), 7, 8, 2, 9);
        Cases.dueAll("point(1, what)", w -> x.point(1, w), -1, -2, 1, 0);
        Cases.dueAll("centre", x::centre, 3, -4);
        Cases.due("count(5)", x.count(5), 0);
    }

    /** The text has no fault and tells so many points. */
    private static RainbowHulls fine(String text, int points) {
        RainbowHulls x = before();
        Cases.tape(x, text);
        Cases.due("points() of '" + text + "'", x.points(), points);
        Cases.due("fault(0) of '" + text + "'", x.fault(0), 0);
        Cases.due("fault(1) of '" + text + "'", x.fault(1), -1);
        Cases.due("count(0)", x.count(0), points);
        Cases.due("count(5)", x.count(5), 0);
        return x;
    }

    // ---- 1: a new object ----

    static void promise01NoPointsNoTape() {
        RainbowHulls x = new RainbowHulls();
        Cases.dueAll("count", x::count, 0, 0, 0, 0, 0, 0);
        Cases.dueAll("point(0, what)", w -> x.point(0, w), Cases.NO, Cases.NO, Cases.NO, Cases.NO);
        Cases.due("corners(1)", x.corners(1), -2);
        Cases.due("removes(0)", x.removes(0), -2);
        Cases.due("adds", x.adds(1, 1, 1), 0);
    }

    static void promise01CentreAtZero() {
        RainbowHulls x = new RainbowHulls();
        Cases.dueAll("centre", x::centre, 0, 0);
        Cases.due("centres(0, 0)", x.centres(0, 0), 0);
    }

    static void promise01TwoObjectsShareNothing() {
        RainbowHulls x = before();
        RainbowHulls y = new RainbowHulls();
        x.feed(1, 2, 3, 4, 5);
        Cases.same("another object", Cases.seen(y), Cases.seen(new RainbowHulls()));
    }

    static void promise01Constants() {
        Cases.due("NONE", RainbowHulls.NONE, -1);
        Cases.due("NO_SUCH", RainbowHulls.NO_SUCH, Long.MIN_VALUE);
    }

    // ---- 2: feed ----

    static void promise02AnswersHowManyBytes() {
        RainbowHulls x = new RainbowHulls();
        Cases.due("feed", x.feed(0, 0, 0, 0, 0), 20);
        Cases.due("feed", x.feed(-1, -1, -1, -1, -1), 40);
        Cases.due("count(5)", x.count(5), 40);
    }

    static void promise02HighestByteFirst() {
        RainbowHulls x = new RainbowHulls();
        x.feed(0x72656420, 0x312d323b, 0x626c7565, 0x20332034, 0x3b677265);
        x.feed(0x656e2035, 0x20363b20, 0x63656e74, 0x72652037, 0x20383b0a);
        Cases.due("points()", x.points(), 3);
        Cases.dueAll("point(0, what)", w -> x.point(0, w), 1, -2, 0, 0);
        Cases.dueAll("point(1, what)", w -> x.point(1, w), 3, 4, 2, 0);
        Cases.dueAll("point(2, what)", w -> x.point(2, w), 5, 6, 1, 0);
        Cases.dueAll("centre", x::centre, 7, 8);
    }

    static void promise02UpTo600() {
        RainbowHulls x = blank(560);
        Cases.due("feed to 580", x.feed(BLANKS, BLANKS, BLANKS, BLANKS, BLANKS), 580);
        Cases.due("feed to 600", x.feed(BLANKS, BLANKS, BLANKS, BLANKS, BLANKS), 600);
        Cases.due("feed to 620", x.feed(BLANKS, BLANKS, BLANKS, BLANKS, BLANKS), -1);
        Cases.due("count(5)", x.count(5), 600);
    }

    static void promise02From579From580From581() {
        Cases.due("feed to 599", blank(579).feed(BLANKS, BLANKS, BLANKS, BLANKS, BLANKS), 599);
        Cases.due("feed to 600", blank(580).feed(BLANKS, BLANKS, BLANKS, BLANKS, BLANKS), 600);
        Cases.due("feed to 601", blank(581).feed(BLANKS, BLANKS, BLANKS, BLANKS, BLANKS), -1);
    }

    static void promise02RefusedNoneCome() {
        for (int bytes : new int[] {581, 590, 599, 600}) {
            Supplier<RainbowHulls> made = () -> {
                RainbowHulls x = before();
                Cases.tape(x, Cases.repeat("red 1 2;", " ", bytes - 8, ""));
                return x;
            };
            Cases.refused("feed at " + bytes, made, x -> x.feed(0x3b3b3b3b, 0, -1, 0x61616161, 0x2c2c2c2c), -1);
        }
    }

    static void promise02All600BytesAreRead() {
        String text = Cases.repeat("red 1 2;", " ", 583, "blue 3 4;");
        RainbowHulls x = fine(text, 2);
        Cases.dueAll("point(1, what)", w -> x.point(1, w), 3, 4, 2, 0);
        RainbowHulls again = fine(text, 2);
        Cases.due("feed behind it", again.feed(0, 0, 0, 0, 0), 20);
    }

    static void promise02BytesComeBehindTheTape() {
        RainbowHulls x = new RainbowHulls();
        Cases.tape(x, "red 1");
        Cases.due("feed", x.feed(0x3920323b, BLANKS, BLANKS, BLANKS, BLANKS), 25);
        Cases.due("points()", x.points(), 1);
        Cases.due("point(0, 0)", x.point(0, 0), 19);
    }

    // ---- 3: end ----

    static void promise03FirstNBytesAlone() {
        RainbowHulls x = new RainbowHulls();
        Cases.tape(x, "red 1 2;blue 3 4;");
        Cases.due("end(17)", x.end(17), 17);
        Cases.due("end(16)", x.end(16), 16);
        Cases.due("end(8)", x.end(8), 8);
        Cases.due("count(5)", x.count(5), 8);
        Cases.due("points()", x.points(), 1);
        Cases.due("count(1)", x.count(1), 1);
    }

    static void promise03BytesBehindTheEndAreNone() {
        // Each text is cut where a longer token went on.
        cut("redred", 3, 1, 3);
        cut("red 1 219", 7, 1, 7);
        cut("red 1 1 loadload", 12, 1, 12);
        cut("red 1 1;;", 8, 0, -1);
        cut("red 1 1; ?", 9, 0, -1);
        cut("red 1 1  ;", 8, 1, 8);
    }

    private static void cut(String text, int n, int fault, int place) {
        RainbowHulls x = new RainbowHulls();
        Cases.tape(x, text);
        Cases.due("end", x.end(n), n);
        Cases.due("points() of '" + text + "' cut at " + n, x.points(), fault == 0 ? 1 : -4);
        Cases.dueAll("fault of '" + text + "' cut at " + n, x::fault, fault, place);
    }

    static void promise03NotSoManyBytes() {
        RainbowHulls x = blank(20);
        Cases.due("end(20)", x.end(20), 20);
        Cases.due("end(21)", x.end(21), -1);
        Cases.due("end(19)", x.end(19), 19);
        Cases.due("end(20), one is cut off", x.end(20), -1);
        Cases.due("count(5)", x.count(5), 19);
    }

    static void promise03BelowZero() {
        RainbowHulls x = blank(20);
        Cases.dueAt("end", x::end, -1, -1, -2, Cases.LOW);
        Cases.due("count(5)", x.count(5), 20);
        Cases.due("end(1)", x.end(1), 1);
        Cases.due("end(0)", x.end(0), 0);
        Cases.due("count(5)", x.count(5), 0);
    }

    static void promise03EmptyTape() {
        RainbowHulls x = new RainbowHulls();
        Cases.due("end(0)", x.end(0), 0);
        Cases.due("end(1)", x.end(1), -1);
        Cases.due("end(-1)", x.end(-1), -1);
    }

    static void promise03FullTape() {
        Cases.due("end(600)", blank(600).end(600), 600);
        Cases.due("end(601)", blank(600).end(601), -1);
        Cases.due("end(599)", blank(600).end(599), 599);
    }

    static void promise03RefusedNothingHappens() {
        Supplier<RainbowHulls> made = () -> {
            RainbowHulls x = before();
            Cases.tape(x, "red 1 2;blue 3 4;");
            return x;
        };
        for (int n : new int[] {-1, 18, 600, 601, Cases.LOW, Cases.HIGH}) {
            Cases.refused("end(" + n + ")", made, x -> x.end(n), -1);
        }
    }

    // ---- 4: points ----

    static void promise04EmptyTape() {
        RainbowHulls x = fine("", 0);
        Cases.dueAll("centre", x::centre, 0, 0);
        Cases.due("points() once more", x.points(), 0);
    }

    static void promise04BlanksAlone() {
        fine(" ", 0);
        fine("\n", 0);
        fine(Cases.repeat("", " \n", 300, ""), 0);
    }

    static void promise04TapeIsEmptyThen() {
        RainbowHulls x = fine("red 1 1;", 1);
        Cases.due("count(5)", x.count(5), 0);
        Cases.due("end(1)", x.end(1), -1);
        Cases.due("points() of the empty tape", x.points(), 0);
        Cases.due("count(0)", x.count(0), 0);
    }

    static void promise04TapeIsEmptyBehindAFault() {
        RainbowHulls x = before();
        Cases.tape(x, "red 1 1");
        Cases.due("points()", x.points(), -4);
        Cases.due("count(5)", x.count(5), 0);
        Cases.due("end(1)", x.end(1), -1);
        Cases.tape(x, ";");
        Cases.due("points()", x.points(), -4);
        Cases.due("fault(1)", x.fault(1), 0);
    }

    static void promise04InPlaceOfAllPoints() {
        RainbowHulls x = fine("red 5 6;", 1);
        Cases.dueAll("point(0, what)", w -> x.point(0, w), 5, 6, 0, 0);
        Cases.due("point(1, 0)", x.point(1, 0), Cases.NO);
        Cases.dueAll("count", x::count, 1, 1, 0, 0, 0, 0);
    }

    static void promise04InPlaceOfTheCentre() {
        RainbowHulls told = fine("red 5 6; centre -7 8;", 1);
        Cases.dueAll("centre", told::centre, -7, 8);
        RainbowHulls untold = fine("red 5 6;", 1);
        Cases.dueAll("centre, none told", untold::centre, 0, 0);
    }

    static void promise04FaultAllElseStays() {
        faulty("red 5 6; centre 1 1; blue 2", 1, 27);
        faulty("red 5 6; centre 1 21;", 2, 18);
        faulty("centre 1 1; red 5 6; centre 2 2;", 3, 21);
    }

    static void promise04XUpTo20() {
        Cases.due("20", fine("red 20 0;", 1).point(0, 0), 20);
        Cases.due("-20", fine("red -20 0;", 1).point(0, 0), -20);
        Cases.due("0", fine("red 0 1;", 1).point(0, 0), 0);
        Cases.due("-0", fine("red -0 1;", 1).point(0, 0), 0);
        faulty("red 21 0;", 2, 4);
        faulty("red -21 0;", 2, 5);
    }

    static void promise04YUpTo20() {
        Cases.due("20", fine("red 0 20;", 1).point(0, 1), 20);
        Cases.due("-20", fine("red 0 -20;", 1).point(0, 1), -20);
        Cases.due("0", fine("red 1 0;", 1).point(0, 1), 0);
        Cases.due("-0", fine("red 1 -0;", 1).point(0, 1), 0);
        faulty("red 0 21;", 2, 6);
        faulty("red 0 -21;", 2, 7);
    }

    static void promise04CentreUpTo20() {
        Cases.dueAll("centre", fine("centre 20 -20;", 0)::centre, 20, -20);
        Cases.dueAll("centre", fine("centre -20 20;", 0)::centre, -20, 20);
        faulty("centre 21 0;", 2, 7);
        faulty("centre -21 0;", 2, 8);
        faulty("centre 0 21;", 2, 9);
        faulty("centre 0 -21;", 2, 10);
    }

    static void promise04LoadUpTo99() {
        Cases.due("0", fine("red 1 1 load 0;", 1).point(0, 3), 0);
        Cases.due("1", fine("red 1 1 load 1;", 1).point(0, 3), 1);
        Cases.due("99", fine("red 1 1 load 99;", 1).point(0, 3), 99);
        faulty("red 1 1 load 100;", 2, 13);
        faulty("red 1 1 load -1;", 1, 13);
    }

    static void promise04LoadOfAllPointsOfTheLine() {
        RainbowHulls x = fine("red 1 1; blue 2 2, 3 3, 4 4 load 7; green 5 5;", 5);
        Cases.dueAll("load", p -> x.point(p, 3), 0, 7, 7, 7, 0);
        RainbowHulls full = fine(FULL + " load 9;", 24);
        Cases.due("count(4)", full.count(4), Cases.ALL_24);
        Cases.due("point(23, 3)", full.point(23, 3), 9);
    }

    static void promise04LoadIsZeroAtFirst() {
        RainbowHulls x = Cases.of("red 1 1, 2 2 load 99;");
        Cases.tape(x, "red 1 1, 2 2;");
        x.points();
        Cases.due("count(4)", x.count(4), 0);
    }

    static void promise04LeadingZeros() {
        Cases.due("020", fine("red 020 1;", 1).point(0, 0), 20);
        Cases.due("099", fine("red 1 1 load 0000000000099;", 1).point(0, 3), 99);
        Cases.due("580 zeros", fine(Cases.repeat("red ", "0", 580, "7 1;"), 1).point(0, 0), 7);
        faulty("red 021 1;", 2, 4);
        faulty("red 1 1 load 0100;", 2, 13);
    }

    static void promise04CentreAnywhereOnce() {
        Cases.dueAll("first", fine("centre 1 2; red 0 0; blue 0 0;", 2)::centre, 1, 2);
        Cases.dueAll("between", fine("red 0 0; centre 1 2; blue 0 0;", 2)::centre, 1, 2);
        Cases.dueAll("last", fine("red 0 0; blue 0 0; centre 1 2;", 2)::centre, 1, 2);
    }

    static void promise04TwentyFourPoints() {
        fine(Cases.many("red", 23, "0 0") + ";", 23);
        fine(FULL + ";", 24);
        fine(Cases.many("red", 23, "0 0") + ";green 1 1;", 24);
        faulty(FULL + ",0 0;", 3, 100);
    }

    static void promise04SeveralPointsAtOnePlace() {
        RainbowHulls x = fine("red 1 1, 1 1; green 1 1; red 1 1;", 4);
        Cases.due("count(1)", x.count(1), 0b1011);
        Cases.due("count(2)", x.count(2), 0b0100);
    }

    static void promise04EachColour() {
        Cases.dueAll("count", fine("red 1 1;", 1)::count, 1, 1, 0, 0);
        Cases.dueAll("count", fine("green 1 1;", 1)::count, 1, 0, 1, 0);
        Cases.dueAll("count", fine("blue 1 1;", 1)::count, 1, 0, 0, 1);
    }

    // ---- 5: fault; tokens, faults, their places ----

    static void promise05AheadOfAnyPoints() {
        RainbowHulls x = new RainbowHulls();
        Cases.due("fault(0)", x.fault(0), 0);
        Cases.due("fault(1)", x.fault(1), -1);
        Cases.due("fault(2)", x.fault(2), -1);
    }

    static void promise05AnotherWhat() {
        RainbowHulls good = Cases.of("red 1 1;");
        RainbowHulls bad = new RainbowHulls();
        Cases.tape(bad, "red 1 21;");
        bad.points();
        Cases.dueAt("fault", good::fault, -1, -1, 2, 3, Cases.LOW, Cases.HIGH);
        Cases.dueAt("fault", bad::fault, -1, -1, 2, 3, Cases.LOW, Cases.HIGH);
        Cases.dueAll("fault", bad::fault, 2, 6);
    }

    static void promise05OfTheLatestPoints() {
        RainbowHulls x = new RainbowHulls();
        Cases.tape(x, "red 1 21;");
        x.points();
        Cases.dueAll("fault", x::fault, 2, 6);
        Cases.tape(x, "red ;");
        x.points();
        Cases.dueAll("fault", x::fault, 1, 4);
        Cases.tape(x, "red 1 1;");
        x.points();
        Cases.dueAll("fault", x::fault, 0, -1);
        Cases.tape(x, ";");
        x.points();
        Cases.dueAll("fault at 0", x::fault, 1, 0);
        x.points();
        Cases.dueAll("fault of nothing", x::fault, 0, -1);
    }

    static void promise05StaysTillTheNextPoints() {
        RainbowHulls x = new RainbowHulls();
        Cases.tape(x, "red 1 21;");
        x.points();
        Cases.tape(x, "red 1 1;");
        x.adds(1, 1, 1);
        x.centres(2, 2);
        Cases.dueAll("fault", x::fault, 2, 6);
    }

    static void promise05BlanksAre32And10Alone() {
        for (int sign = 0; sign < 256; sign++) {
            String text = "red 1 1" + (char) sign + ";";
            if (sign == 32 || sign == 10 || sign >= '0' && sign <= '9') {
                fine(text, 1);
            } else {
                faulty(text, 1, sign == ';' || sign == ',' ? 8 : 7);
            }
        }
    }

    static void promise05SignsAheadOfALine() {
        for (int sign = 0; sign < 256; sign++) {
            String text = (char) sign + "red 1 1;";
            if (sign == 32 || sign == 10) {
                fine(text, 1);
            } else {
                faulty(text, 1, 0);
            }
        }
    }

    static void promise05LettersAreAToZAlone() {
        for (int sign = 0; sign < 256; sign++) {
            // A letter makes the word another one; what is none leaves the word, and stands where X is due.
            boolean letter = sign >= 'a' && sign <= 'z';
            boolean digit = sign >= '0' && sign <= '9';
            String text = "red" + (char) sign + " 1 1;";
            if (sign == 32 || sign == 10 || sign == '-') {
                fine(text, 1);
            } else {
                faulty(text, 1, letter ? 0 : digit ? 7 : 3);
            }
        }
    }

    static void promise05DigitsAre0To9Alone() {
        for (int sign = 0; sign < 256; sign++) {
            String text = "red 1 " + (char) sign + ";";
            if (sign >= '0' && sign <= '9') {
                Cases.due("y", fine(text, 1).point(0, 1), sign - '0');
            } else {
                faulty(text, 1, sign == 32 || sign == 10 || sign == '-' ? 7 : 6);
            }
        }
    }

    static void promise05TheLongestToken() {
        fine("red1 1;", 1);
        fine("red-1-1;", 1);
        fine("red 1 1load5;", 1);
        fine("centre1 1;blue2 2;", 1);
        Cases.due("red 12 1", fine("red 12 1;", 1).point(0, 0), 12);
        faulty("redred 1 1;", 1, 0);
        faulty("red 11;", 1, 6);
        faulty("re d 1 1;", 1, 0);
        faulty("red 1 1 lo ad 5;", 1, 8);
        faulty("red 1 2 0;", 1, 8);
        faulty("red 202 1;", 2, 4);
    }

    static void promise05WordsToTheLetter() {
        faulty("re 1 1;", 1, 0);
        faulty("reds 1 1;", 1, 0);
        faulty("gree 1 1;", 1, 0);
        faulty("greens 1 1;", 1, 0);
        faulty("blu 1 1;", 1, 0);
        faulty("blues 1 1;", 1, 0);
        faulty("centr 1 1;", 1, 0);
        faulty("centres 1 1;", 1, 0);
        faulty("center 1 1;", 1, 0);
        faulty("red 1 1 loa 1;", 1, 8);
        faulty("red 1 1 loads 1;", 1, 8);
        faulty("rex 1 1;", 1, 0);
        faulty("blux 1 1;", 1, 0);
        faulty("Red 1 1;", 1, 0);
        faulty("bed 1 1;", 1, 0);
        faulty("rad 1 1;", 1, 0);
        faulty("rreen 1 1;", 1, 0);
        faulty("rlue 1 1;", 1, 0);
        faulty("rentre 1 1;", 1, 0);
        faulty("red 1 1 road 1;", 1, 8);
    }

    static void promise05WordsThatFillTheTape() {
        faulty(Cases.repeat("", "a", 600, ""), 1, 0);
        faulty(Cases.repeat("red 1 1 ", "l", 592, ""), 1, 8);
        faulty(Cases.repeat("", " ", 597, "red"), 1, 600);
    }

    static void promise05WhatCanStandAtALinesStart() {
        faulty(";", 1, 0);
        faulty("load 5;", 1, 0);
        faulty("1 1;", 1, 0);
        faulty("-1 1;", 1, 0);
        faulty(",1 1;", 1, 0);
        faulty("red 1 1;;", 1, 8);
    }

    static void promise05WhatCanStandInALine() {
        faulty("red;", 1, 3);
        faulty("red ,1 1;", 1, 4);
        faulty("red red 1 1;", 1, 4);
        faulty("red load 1;", 1, 4);
        faulty("red 1;", 1, 5);
        faulty("red 1,1;", 1, 5);
        faulty("red 1 1 1;", 1, 8);
        faulty("red 1 1,;", 1, 8);
        faulty("red 1 1,,2 2;", 1, 8);
        faulty("red 1 1 -;", 1, 8);
        faulty("red 1 1 blue 2 2;", 1, 8);
        faulty("red --1 1;", 1, 5);
        faulty("red -;", 1, 5);
        faulty("red - red;", 1, 6);
        Cases.due("a minus, blanks, a number", fine("red - \n 5 - 6;", 1).point(0, 0), -5);
    }

    static void promise05WhatCanStandBehindLoad() {
        faulty("red 1 1 load;", 1, 12);
        faulty("red 1 1 load -1;", 1, 13);
        faulty("red 1 1 load load 1;", 1, 13);
        faulty("red 1 1 load 1 load 1;", 1, 15);
        faulty("red 1 1 load 1 1;", 1, 15);
        faulty("red 1 1 load 1, 2 2;", 1, 14);
        faulty("red load 1 1 1;", 1, 4);
    }

    static void promise05WhatCanStandInACentre() {
        faulty("centre;", 1, 6);
        faulty("centre 1;", 1, 8);
        faulty("centre 1 1, 2 2;", 1, 10);
        faulty("centre 1 1 load 5;", 1, 11);
        faulty("centre 1 1 1;", 1, 11);
        faulty("centre red 1 1;", 1, 7);
    }

    static void promise05TheEndsPlace() {
        faulty("red", 1, 3);
        faulty("red ", 1, 4);
        faulty("red -", 1, 5);
        faulty("red 1", 1, 5);
        faulty("red 1 1", 1, 7);
        faulty("red 1 1 \n ", 1, 10);
        faulty("red 1 1,", 1, 8);
        faulty("red 1 1 load", 1, 12);
        faulty("red 1 1 load 5", 1, 14);
        faulty("centre", 1, 6);
        faulty("centre 1 1", 1, 10);
        fine("red 1 1; ", 1);
    }

    static void promise05TheEndOf600Bytes() {
        faulty(Cases.repeat("red 1 1", " ", 593, ""), 1, 600);
        faulty(Cases.repeat("red 1 1", " ", 592, "?"), 1, 599);
        fine(Cases.repeat("red 1 1", " ", 592, ";"), 1);
    }

    static void promise05NumbersThatAreVeryLong() {
        faulty("red 256 1;", 2, 4);
        faulty("red 1000 1;", 2, 4);
        faulty("red 65541 1;", 2, 4);
        faulty("red 4294967301 1;", 2, 4);
        faulty("red 18446744073709551621 1;", 2, 4);
        faulty("red 1 1 load 4294967296;", 2, 13);
        faulty("red 1 1 load 18446744073709551616;", 2, 13);
        faulty(Cases.repeat("red 1 ", "9", 590, ";"), 2, 6);
        faulty(Cases.repeat("red 1 1", "0", 593, ""), 2, 6);
    }

    static void promise05BoundsOfANumberByWhereItStands() {
        faulty("red 99 1;", 2, 4);
        fine("red 1 1 load 21;", 1);
        faulty("red 1 1 100;", 1, 8);
        faulty("100 red;", 1, 0);
    }

    static void promise05TwentyFifthAtTheFirstTokenOfItsX() {
        faulty(FULL + ",5 5;", 3, 100);
        faulty(FULL + ", 5 5;", 3, 101);
        faulty(FULL + ",-5 5;", 3, 100);
        faulty(FULL + ",\n- 5 5;", 3, 101);
        faulty(FULL + ";green 5 5;", 3, 106);
        faulty(FULL + ";blue-5 5;", 3, 104);
        faulty(FULL + ",5", 3, 100);
    }

    static void promise05TwentyFourDoNotFault() {
        fine(FULL + "; centre 1 1;", 24);
        fine(FULL + " load 5;", 24);
        faulty(FULL + ";green;", 1, 105);
        faulty(FULL + ";green", 1, 105);
        faulty(FULL + ",", 1, 100);
    }

    static void promise05OfOnePlaceTheLeast() {
        faulty(FULL + ",20 5;", 3, 100);
        faulty(FULL + ",21 5;", 2, 100);
        faulty(FULL + ",red 5;", 1, 100);
        faulty(FULL + ",;", 1, 100);
        faulty(FULL + ",? 5;", 1, 100);
        faulty(FULL + ";blue 99 5;", 2, 105);
        faulty("centre 1 1 centre 2 2;", 1, 11);
        faulty("centre 1 1; red 0 0 centre 2 2;", 1, 20);
        faulty("centre 1 1; red centre 2 2;", 1, 16);
    }

    static void promise05TheFirstByItsPlace() {
        faulty(FULL + ",-21 5;", 3, 100);
        faulty(FULL + ",-;", 3, 100);
        faulty(FULL + ",5 21;", 3, 100);
        faulty("red 21 ?;", 2, 4);
        faulty("red ? 21;", 1, 4);
        faulty("centre 1 1; red 0 21; centre 2 2;", 2, 18);
        faulty("centre 1 1; centre 2 2; red 0 21;", 3, 12);
        faulty("red 0 21", 2, 6);
        faulty("red 1 1 load 100 ?", 2, 13);
    }

    static void promise05SecondCentreAtItsWord() {
        fine("centre 1 1;", 0);
        faulty("centre 1 1;centre 2 2;", 3, 11);
        faulty("centre 1 1; \n centre 1 1;", 3, 14);
        faulty("centre 1 1;red 0 0;centre", 3, 19);
        faulty("centre 1 1;centre 21 2;", 3, 11);
        faulty("centre 1 1;centres 2 2;", 1, 11);
    }

    static void promise05ACentreOfAnEarlierTextIsNoFirst() {
        RainbowHulls x = Cases.of("centre 1 1;");
        Cases.tape(x, "centre 2 2;");
        Cases.due("points()", x.points(), 0);
        Cases.tape(x, "centre 3 3; centre 4 4;");
        Cases.due("points()", x.points(), -4);
        Cases.tape(x, "centre 5 5;");
        Cases.due("points()", x.points(), 0);
        Cases.dueAll("centre", x::centre, 5, 5);
    }

    static void promise05PointsOfAnEarlierTextDoNotCount() {
        RainbowHulls x = Cases.of(FULL + ";");
        Cases.tape(x, "red 1 1;");
        Cases.due("points()", x.points(), 1);
        Cases.tape(x, FULL + ",1 1;");
        Cases.due("points()", x.points(), -4);
        Cases.tape(x, FULL + ";");
        Cases.due("points()", x.points(), 24);
    }

    // ---- 6: count; 7: point; 8: centre ----

    static void promise06EachWhatAndOthers() {
        RainbowHulls x = Cases.of("red 1 2; blue 3 4 load 5; red 6 -7 load 8; green 9 10;");
        Cases.dueAll("count", x::count, 4, 0b0101, 0b1000, 0b0010, 0b0110, 0);
        Cases.dueAt("count", x::count, -1, -1, 6, 7, Cases.LOW, Cases.HIGH);
    }

    static void promise06TheHighestBit() {
        RainbowHulls x = Cases.of(FULL + ";");
        Cases.dueAll("count", x::count, 24, Cases.ALL_24, 0, 0, 0);
        x.paints(23, 2);
        x.loads(23, 1);
        Cases.dueAll("count", x::count, 24, Cases.ALL_24 >> 1, 0, 1 << 23, 1 << 23);
    }

    static void promise06LoadAboveZero() {
        RainbowHulls x = Cases.of("red 1 1 load 1; red 2 2 load 0; red 3 3 load 99;");
        Cases.due("count(4)", x.count(4), 0b101);
        x.loads(0, 0);
        Cases.due("count(4)", x.count(4), 0b100);
    }

    static void promise06BytesOfTheTape() {
        RainbowHulls x = blank(600);
        Cases.due("count(5)", x.count(5), 600);
        x.end(1);
        Cases.due("count(5)", x.count(5), 1);
        x.points();
        Cases.due("count(5)", x.count(5), 0);
    }

    static void promise07NumbersOfPoints() {
        RainbowHulls x = Cases.of("red 1 2; green 3 4; blue 5 6 load 7;");
        Cases.dueAll("x", p -> x.point(p, 0), 1, 3, 5);
        Cases.dueAt("x", p -> x.point(p, 0), Cases.NO, -1, 3, 24, Cases.LOW, Cases.HIGH);
        RainbowHulls full = Cases.of(FULL + ";");
        Cases.due("point(23, 0)", full.point(23, 0), 0);
        Cases.due("point(24, 0)", full.point(24, 0), Cases.NO);
    }

    static void promise07EachWhatAndOthers() {
        RainbowHulls x = Cases.of("red 1 2; blue 5 -6 load 7;");
        Cases.dueAll("point(1, what)", w -> x.point(1, w), 5, -6, 2, 7);
        Cases.dueAt("point(1, what)", w -> x.point(1, w), Cases.NO, -1, 4, 5, Cases.LOW, Cases.HIGH);
    }

    static void promise08EachWhatAndOthers() {
        RainbowHulls x = Cases.of("centre 20 -20;");
        Cases.dueAll("centre", x::centre, 20, -20);
        Cases.dueAt("centre", x::centre, Cases.NO, -1, 2, 3, Cases.LOW, Cases.HIGH);
    }
}
