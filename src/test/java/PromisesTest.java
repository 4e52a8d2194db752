/** One test at least for each promise of the document: ordinary inputs, edges, wrong inputs. Answers are worked out by hand. */
public final class PromisesTest {
    private static final long NO = Long.MIN_VALUE;
    private static int wrong = 0;
    private static int promise = 0;

    private static void due(String call, long got, long want) {
        if (got != want) {
            wrong++;
            System.out.println("promise " + promise + ": " + call + " answered " + got + ", due is " + want);
        }
    }

    private static void tape(RainbowHulls x, String text) {
        for (int i = 0; i < text.length(); i += 20) {
            int[] five = new int[5];
            for (int k = 0; k < 20; k++) {
                int sign = i + k < text.length() ? text.charAt(i + k) : 0;
                five[k / 4] = five[k / 4] << 8 | sign;
            }
            x.feed(five[0], five[1], five[2], five[3], five[4]);
        }
        x.end(text.length());
    }

    private static RainbowHulls of(String text) {
        RainbowHulls x = new RainbowHulls();
        tape(x, text);
        if (x.points() < 0) {
            wrong++;
            System.out.println("promise " + promise + ": not read: " + text);
        }
        return x;
    }

    private static void faulty(String text, int fault, int place) {
        RainbowHulls x = of("blue 7 8 load 9; centre 1 2;");
        tape(x, text);
        due("points() of '" + text + "'", x.points(), -4);
        due("fault(0) of '" + text + "'", x.fault(0), fault);
        due("fault(1) of '" + text + "'", x.fault(1), place);
        due("count(5)", x.count(5), 0);
        due("count(0)", x.count(0), 1);
        due("point(0, 0)", x.point(0, 0), 7);
        due("point(0, 1)", x.point(0, 1), 8);
        due("point(0, 2)", x.point(0, 2), 2);
        due("point(0, 3)", x.point(0, 3), 9);
        due("centre(0)", x.centre(0), 1);
        due("centre(1)", x.centre(1), 2);
    }

    private static final int[] STRANGE = {-1, 5, 6, 7, 100, Integer.MIN_VALUE, Integer.MAX_VALUE};
    private static final int[] NO_SETS = {0, -1, 64, 65, 1 << 24, Integer.MIN_VALUE, Integer.MAX_VALUE};

    /** Four corners of a square, the middle of its low side, its middle; the centre outside. */
    private static RainbowHulls square() {
        return of("red 0 0, 4 0; green 4 4, 0 4; blue 2 0, 2 2; centre 7 2;");
    }

    private static void news() {
        promise = 1;
        RainbowHulls x = new RainbowHulls();
        due("count(0)", x.count(0), 0);
        due("count(5)", x.count(5), 0);
        due("centre(0)", x.centre(0), 0);
        due("centre(1)", x.centre(1), 0);
        due("point(0, 0)", x.point(0, 0), NO);
        due("rainbows()", x.rainbows(), 0);
        due("NONE", RainbowHulls.NONE, -1);
        due("NO_SUCH", RainbowHulls.NO_SUCH, NO);
    }

    private static void feeds() {
        promise = 2;
        RainbowHulls x = new RainbowHulls();
        for (int i = 1; i <= 30; i++) {
            due("feed", x.feed(0x20202020, 0x20202020, 0x20202020, 0x20202020, 0x20202020), 20 * i);
        }
        due("feed beyond 600", x.feed(0, 0, 0, 0, 0), -1);
        due("count(5)", x.count(5), 600);
        due("end(581)", x.end(581), 581);
        due("feed to 601", x.feed(0, 0, 0, 0, 0), -1);
        due("count(5)", x.count(5), 581);
        due("end(580)", x.end(580), 580);
        due("feed to 600", x.feed(0x72656420, 0x312d323b, 0x20202020, 0x20202020, 0x20202020), 600);
        due("points()", x.points(), 1);
        due("point(0, 0)", x.point(0, 0), 1);
        due("point(0, 1)", x.point(0, 1), -2);
        due("feed", x.feed(0x72656420, 0x312032ff, -1, 0x80808080, 0), 20);
        due("points()", x.points(), -4);
        due("fault(1)", x.fault(1), 7);
    }

    private static void ends() {
        promise = 3;
        RainbowHulls x = new RainbowHulls();
        due("end(0)", x.end(0), 0);
        due("end(1)", x.end(1), -1);
        due("end(-1)", x.end(-1), -1);
        x.feed(0x20202020, 0x20202020, 0x20202020, 0x20202020, 0x20202020);
        due("end(21)", x.end(21), -1);
        due("end(-1)", x.end(-1), -1);
        due("end(min)", x.end(Integer.MIN_VALUE), -1);
        due("end(max)", x.end(Integer.MAX_VALUE), -1);
        due("count(5)", x.count(5), 20);
        due("end(20)", x.end(20), 20);
        due("end(3)", x.end(3), 3);
        due("count(5)", x.count(5), 3);
        due("end(4)", x.end(4), -1);
        due("feed", x.feed(0x20202020, 0x20202020, 0x20202020, 0x20202020, 0x20202020), 23);
        due("end(0)", x.end(0), 0);
    }

    private static void texts() {
        promise = 4;
        RainbowHulls x = of("red 1 -2, -20 20 load 99;\ncentre -3 4;green-1-0;blue 0 0load 0;red 007 5;");
        due("count(0)", x.count(0), 5);
        due("count(5)", x.count(5), 0);
        due("point(0, 1)", x.point(0, 1), -2);
        due("point(1, 0)", x.point(1, 0), -20);
        due("point(1, 1)", x.point(1, 1), 20);
        due("point(0, 3)", x.point(0, 3), 99);
        due("point(1, 3)", x.point(1, 3), 99);
        due("point(2, 0)", x.point(2, 0), -1);
        due("point(2, 1)", x.point(2, 1), 0);
        due("point(2, 2)", x.point(2, 2), 1);
        due("point(3, 2)", x.point(3, 2), 2);
        due("point(3, 3)", x.point(3, 3), 0);
        due("point(4, 0)", x.point(4, 0), 7);
        due("centre(0)", x.centre(0), -3);
        due("centre(1)", x.centre(1), 4);
        tape(x, "green 1 1;");
        due("points()", x.points(), 1);
        due("centre(0) in place of all", x.centre(0), 0);
        due("centre(1) in place of all", x.centre(1), 0);
        due("point(0, 3) in place of all", x.point(0, 3), 0);
        due("points() of nothing", x.points(), 0);
        due("count(0)", x.count(0), 0);
        tape(x, " \n ");
        due("points() of blanks", x.points(), 0);
        StringBuilder full = new StringBuilder("blue 0 0");
        for (int i = 1; i < 24; i++) {
            full.append(", ").append(i % 20).append(" -1");
        }
        tape(x, full + ";");
        due("points() of 24", x.points(), 24);
        due("fault(0)", x.fault(0), 0);
    }

    private static void faults() {
        promise = 5;
        RainbowHulls x = new RainbowHulls();
        due("fault(0) ahead of any", x.fault(0), 0);
        due("fault(1) ahead of any", x.fault(1), -1);
        for (int what : STRANGE) {
            due("fault(" + what + ")", x.fault(what), -1);
        }
        faulty("red 1 1", 1, 7);
        faulty("red 1 1  ", 1, 9);
        faulty("red 1 1;;", 1, 8);
        faulty("red 1;", 1, 5);
        faulty("red 1 1 1;", 1, 8);
        faulty("redd 1 1;", 1, 0);
        faulty("redz 1 1;", 1, 0);
        faulty("bed 1 1;", 1, 0);
        faulty("rod 1 1;", 1, 0);
        faulty("zentre 1 1;", 1, 0);
        faulty("red 1 1 toad 1;", 1, 8);
        faulty("re d 1 1;", 1, 0);
        faulty("Red 1 1;", 1, 0);
        faulty("red 1 1{;", 1, 7);
        faulty("red 1 1`;", 1, 7);
        faulty("red 1 1/;", 1, 7);
        faulty("red 1 1:;", 1, 7);
        faulty("red 1 2 0 ;", 1, 8);
        faulty("red 1 1.", 1, 7);
        faulty("red\t1 1;", 1, 3);
        faulty("red 1 1\r;", 1, 7);
        faulty("red 1 1\u00e9;", 1, 7);
        faulty("red 1 1\0;", 1, 7);
        faulty("red - -1 1;", 1, 6);
        faulty("red 1 1 load;", 1, 12);
        faulty("red 1 1 load -1;", 1, 13);
        faulty("red 1 1 load 1, 2 2;", 1, 14);
        faulty("red 1 1 load 1 load 1;", 1, 15);
        faulty("load 1;", 1, 0);
        faulty("centre 1 1, 2 2;", 1, 10);
        faulty("centre 1 1 load 2;", 1, 11);
        faulty("centre;", 1, 6);
        faulty("centre 1 centre 2;", 1, 9);
        faulty("red 21 1;", 2, 4);
        faulty("red 1 -21;", 2, 7);
        faulty("red 1 1, 1 99999999999999999999;", 2, 11);
        faulty("red 1 1 load 100;", 2, 13);
        faulty("red 1 1 load 4294967296;", 2, 13);
        faulty("centre 0021 1;", 2, 7);
        faulty("red 21 .", 2, 4);
        faulty("red . 21", 1, 4);
        faulty("centre 1 1; centre 1 1;", 3, 12);
        faulty("centre 1 1; centre ?", 3, 12);
        StringBuilder full = new StringBuilder("red 0 0");
        for (int i = 1; i < 24; i++) {
            full.append(",0 0");
        }
        int size = full.length();
        faulty(full + ",0 0;", 3, size + 1);
        faulty(full + ", -0 0;", 3, size + 2);
        faulty(full + ",-21 0;", 3, size + 1);
        faulty(full + ",21 0;", 2, size + 1);
        faulty(full + ",;", 1, size + 1);
        faulty(full + ",", 1, size + 1);
        faulty(full + ";blue 0 0;", 3, size + 6);
        faulty(full + ";blue ", 1, size + 6);
        tape(x, "red 1 1");
        due("points()", x.points(), -4);
        tape(x, "red 1 1;");
        due("points()", x.points(), 1);
        due("fault(0) without", x.fault(0), 0);
        due("fault(1) without", x.fault(1), -1);
        due("fault(2)", x.fault(2), -1);
    }

    private static void states() {
        promise = 6;
        RainbowHulls x = of("red 1 2; blue 3 4 load 5; red 6 -7 load 8; green 9 10; centre 11 -12;");
        due("count(0)", x.count(0), 4);
        due("count(1)", x.count(1), 0b0101);
        due("count(2)", x.count(2), 0b1000);
        due("count(3)", x.count(3), 0b0010);
        due("count(4)", x.count(4), 0b0110);
        due("count(5)", x.count(5), 0);
        x.feed(0, 0, 0, 0, 0);
        due("count(5)", x.count(5), 20);
        due("count(6)", x.count(6), -1);
        due("count(-1)", x.count(-1), -1);
        promise = 7;
        due("point(2, 0)", x.point(2, 0), 6);
        due("point(2, 1)", x.point(2, 1), -7);
        due("point(2, 2)", x.point(2, 2), 0);
        due("point(2, 3)", x.point(2, 3), 8);
        due("point(3, 2)", x.point(3, 2), 1);
        due("point(2, 4)", x.point(2, 4), NO);
        due("point(2, -1)", x.point(2, -1), NO);
        due("point(4, 0)", x.point(4, 0), NO);
        due("point(-1, 0)", x.point(-1, 0), NO);
        due("point(max, 0)", x.point(Integer.MAX_VALUE, 0), NO);
        promise = 8;
        due("centre(0)", x.centre(0), 11);
        due("centre(1)", x.centre(1), -12);
        due("centre(2)", x.centre(2), NO);
        due("centre(-1)", x.centre(-1), NO);
    }

    private static void hulls() {
        RainbowHulls x = square();
        promise = 9;
        due("corners(63)", x.corners(63), 4);
        due("corners(1)", x.corners(1), 1);
        due("corners(19)", x.corners(19), 2);
        due("corners(48)", x.corners(48), 2);
        due("corners(56)", x.corners(56), 3);
        promise = 10;
        due("corner(63, 0)", x.corner(63, 0), 0);
        due("corner(63, 1)", x.corner(63, 1), 1);
        due("corner(63, 2)", x.corner(63, 2), 2);
        due("corner(63, 3)", x.corner(63, 3), 3);
        due("corner(63, 4)", x.corner(63, 4), -1);
        due("corner(63, -1)", x.corner(63, -1), -2);
        due("corner(63, max)", x.corner(63, Integer.MAX_VALUE), -1);
        due("corner(64, 9)", x.corner(64, 9), -2);
        due("corner(18, 0)", x.corner(18, 0), 4);
        due("corner(18, 1)", x.corner(18, 1), 1);
        due("corner(48, 0), the lower one", x.corner(48, 0), 4);
        RainbowHulls same = of("red 3 3, 0 0, 3 3, 0 0, 0 6, 0 3;");
        due("corner(63, 0) of several", same.corner(63, 0), 1);
        due("corner(63, 1) of several", same.corner(63, 1), 0);
        due("corner(63, 2) of several", same.corner(63, 2), 4);
        due("corner(12, 0) of several", same.corner(12, 0), 3);
        due("corners(10) of one place", same.corners(10), 1);
        due("corner(10, 0) of one place", same.corner(10, 0), 1);
        promise = 11;
        due("area(63)", x.area(63), 32);
        due("area(7)", x.area(7), 16);
        due("area(19)", x.area(19), 0);
        due("area(1)", x.area(1), 0);
        RainbowHulls wide = of("red -20 -20, 20 20, -20 20, 20 -20;");
        due("area(15)", wide.area(15), 3200);
        promise = 12;
        due("places(63)", x.places(63), 25);
        due("places(7)", x.places(7), 15);
        due("places(19)", x.places(19), 5);
        due("places(1)", x.places(1), 1);
        due("places(15)", wide.places(15), 1681);
        RainbowHulls thin = of("red 0 0, 2 1, 6 4, 0 3;");
        due("places(3)", thin.places(3), 2);
        due("places(5)", thin.places(5), 3);
        due("places(7)", thin.places(7), 4);
        promise = 13;
        due("where(63, 1, 1)", x.where(63, 1, 1), 2);
        due("where(63, 4, 4)", x.where(63, 4, 4), 1);
        due("where(63, 3, 0)", x.where(63, 3, 0), 1);
        due("where(63, 5, 0)", x.where(63, 5, 0), 0);
        due("where(19, 1, 0)", x.where(19, 1, 0), 1);
        due("where(19, 5, 0)", x.where(19, 5, 0), 0);
        due("where(19, -1, 0)", x.where(19, -1, 0), 0);
        due("where(36, 2, 2)", x.where(36, 2, 2), 1);
        due("where(48, 2, 1)", x.where(48, 2, 1), 1);
        due("where(48, 2, 3)", x.where(48, 2, 3), 0);
        due("where(48, 2, -1)", x.where(48, 2, -1), 0);
        due("where(1, 0, 0)", x.where(1, 0, 0), 1);
        due("where(1, 0, 1)", x.where(1, 0, 1), 0);
        due("where(63, 21, 0)", x.where(63, 21, 0), -2);
        due("where(63, 0, -21)", x.where(63, 0, -21), -2);
        due("where(63, -20, 20)", x.where(63, -20, 20), 0);
        promise = 14;
        due("holds(63)", x.holds(63), 0);
        x.centres(4, 2);
        due("holds(63), rim", x.holds(63), 1);
        due("holds(9)", x.holds(9), 0);
        x.centres(2, 2);
        due("holds(32)", x.holds(32), 1);
        due("holds(5)", x.holds(5), 1);
        noSets(x);
    }

    private static void noSets(RainbowHulls x) {
        for (int set : NO_SETS) {
            promise = 9;
            due("corners(" + set + ")", x.corners(set), -2);
            promise = 10;
            due("corner(" + set + ", 0)", x.corner(set, 0), -2);
            promise = 11;
            due("area(" + set + ")", x.area(set), -2);
            promise = 12;
            due("places(" + set + ")", x.places(set), -2);
            promise = 13;
            due("where(" + set + ", 0, 0)", x.where(set, 0, 0), -2);
            promise = 14;
            due("holds(" + set + ")", x.holds(set), -2);
            promise = 15;
            due("nearest(" + set + ", 0)", x.nearest(set, 0), NO);
            promise = 16;
            due("line(" + set + ", 0)", x.line(set, 0), NO);
            promise = 17;
            due("tie(" + set + ", 0)", x.tie(set, 0), NO);
            promise = 18;
            due("radon(" + set + ", 0)", x.radon(set, 0), NO);
            promise = 30;
            due("meet(" + set + ", 1)", x.meet(set, 1), -2);
            due("meet(1, " + set + ")", x.meet(1, set), -2);
            promise = 31;
            due("meeting(" + set + ", 1, 0)", x.meeting(set, 1, 0), NO);
            due("meeting(1, " + set + ", 0)", x.meeting(1, set, 0), NO);
            promise = 32;
            due("apart(" + set + ", 1, 0)", x.apart(set, 1, 0), NO);
            due("apart(1, " + set + ", 0)", x.apart(1, set, 0), NO);
            promise = 33;
            due("partings(" + set + ", 2, 0)", x.partings(set, 2, 0), -2);
            due("partings(" + set + ", 2, 1)", x.partings(set, 2, 1), -2);
            promise = 34;
            due("part(" + set + ", 2, 0, 0)", x.part(set, 2, 0, 0), -2);
            promise = 35;
            due("met(" + set + ", 2, 0, 0)", x.met(set, 2, 0, 0), NO);
        }
    }

    private static void nearests() {
        promise = 15;
        RainbowHulls x = of("red 0 0, 3 1, 6 2, 0 -5; centre 1 7;");
        // On the line y = x/3 the foot of (1, 7) is 10/3 / (10/9) = 3 along x: (3, 1).
        due("nearest(3, 0)", x.nearest(3, 0), 3);
        due("nearest(3, 1)", x.nearest(3, 1), 1);
        due("nearest(3, 2)", x.nearest(3, 2), 1);
        due("nearest(3, 3)", x.nearest(3, 3), 40);
        due("nearest(3, 4)", x.nearest(3, 4), 1);
        x.centres(0, 7);
        // Now (21/10, 7/10), squared distance 441/100 + 3969/100 = 441/10.
        due("nearest(15, 0)", x.nearest(15, 0), 21);
        due("nearest(15, 1)", x.nearest(15, 1), 7);
        due("nearest(15, 2)", x.nearest(15, 2), 10);
        due("nearest(15, 3)", x.nearest(15, 3), 441);
        due("nearest(15, 4)", x.nearest(15, 4), 10);
        due("nearest(8, 1)", x.nearest(8, 1), -5);
        due("nearest(8, 3)", x.nearest(8, 3), 144);
        for (int what : STRANGE) {
            due("nearest(15, " + what + ")", x.nearest(15, what), NO);
        }
        promise = 16;
        due("line(15, 0)", x.line(15, 0), 1);
        due("line(15, 1)", x.line(15, 1), -3);
        due("line(15, 2)", x.line(15, 2), 0);
        due("line(8, 0)", x.line(8, 0), 0);
        due("line(8, 1)", x.line(8, 1), -1);
        due("line(8, 2)", x.line(8, 2), 5);
        due("line(15, 3)", x.line(15, 3), NO);
        due("line(15, -1)", x.line(15, -1), NO);
        x.centres(3, 1);
        due("line(15, 0), held", x.line(15, 0), NO);
        due("line(15, 2), held", x.line(15, 2), NO);
        promise = 15;
        due("nearest(15, 0), held", x.nearest(15, 0), 3);
        due("nearest(15, 1), held", x.nearest(15, 1), 1);
        due("nearest(15, 2), held", x.nearest(15, 2), 1);
        due("nearest(15, 3), held", x.nearest(15, 3), 0);
        due("nearest(15, 4), held", x.nearest(15, 4), 1);
        x.centres(20, 2);
        promise = 16;
        due("line(15, 0)", x.line(15, 0), -1);
        due("line(15, 1)", x.line(15, 1), 0);
        due("line(15, 2)", x.line(15, 2), -6);
    }

    private static void ties() {
        promise = 17;
        RainbowHulls x = of("red 0 0, 6 0, 4 0, 0 3, 1 1, 0 0;");
        // (4, 0) = 1/3 (0, 0) + 2/3 (6, 0).
        due("tie(63, 0)", x.tie(63, 0), -1);
        due("tie(63, 1)", x.tie(63, 1), -2);
        due("tie(63, 2)", x.tie(63, 2), 3);
        due("tie(63, 3)", x.tie(63, 3), 0);
        due("tie(63, 5)", x.tie(63, 5), 0);
        due("tie(63, 6)", x.tie(63, 6), NO);
        due("tie(63, -1)", x.tie(63, -1), NO);
        // (1, 1) = 1/2 (0, 0) + 1/6 (6, 0) + 1/3 (0, 3).
        due("tie(27, 0)", x.tie(27, 0), -3);
        due("tie(27, 1)", x.tie(27, 1), -1);
        due("tie(27, 3)", x.tie(27, 3), -2);
        due("tie(27, 4)", x.tie(27, 4), 6);
        due("tie(27, 2), not of it", x.tie(27, 2), 0);
        // Of the same place as the first one: the second is not needed.
        due("tie(35, 0)", x.tie(35, 0), -1);
        due("tie(35, 1)", x.tie(35, 1), 0);
        due("tie(35, 5)", x.tie(35, 5), 1);
        due("tie(33, 5)", x.tie(33, 5), 1);
        // (0, 0) = -2 (6, 0) + 3 (4, 0).
        due("tie(38, 1)", x.tie(38, 1), 2);
        due("tie(38, 2)", x.tie(38, 2), -3);
        due("tie(38, 5)", x.tie(38, 5), 1);
        due("tie(11, 0), none", x.tie(11, 0), NO);
        due("tie(1, 0), none", x.tie(1, 0), NO);
        promise = 18;
        due("radon(27, 0)", x.radon(27, 0), 16);
        due("radon(27, 1)", x.radon(27, 1), 11);
        due("radon(27, 2)", x.radon(27, 2), 1);
        due("radon(27, 3)", x.radon(27, 3), 1);
        due("radon(27, 4)", x.radon(27, 4), 1);
        due("radon(38, 0)", x.radon(38, 0), 34);
        due("radon(38, 1)", x.radon(38, 1), 4);
        due("radon(38, 2)", x.radon(38, 2), 4);
        due("radon(35, 1), 0 is none", x.radon(35, 1), 1);
        due("radon(11, 0), none", x.radon(11, 0), NO);
        for (int what : STRANGE) {
            due("radon(27, " + what + ")", x.radon(27, what), NO);
        }
        RainbowHulls y = of("red 0 0, 1 2, 3 0, 3 1;");
        // 2, -3, -5, 6: x comes to -3 - 15 + 18, y to -6 + 6.
        promise = 17;
        due("tie(15, 0)", y.tie(15, 0), 2);
        due("tie(15, 1)", y.tie(15, 1), -3);
        due("tie(15, 2)", y.tie(15, 2), -5);
        due("tie(15, 3)", y.tie(15, 3), 6);
        promise = 18;
        due("radon(15, 0)", y.radon(15, 0), 9);
        due("radon(15, 1)", y.radon(15, 1), 6);
        // (0, 0) and (3, 1) by 2 and 6: (18/8, 6/8) = (9/4, 3/4).
        due("radon(15, 2)", y.radon(15, 2), 9);
        due("radon(15, 3)", y.radon(15, 3), 3);
        due("radon(15, 4)", y.radon(15, 4), 4);
    }

    private static void balances() {
        RainbowHulls x = of("red 0 0 load 2; green 4 1 load 1; blue 5 5;");
        promise = 19;
        due("balance(0)", x.balance(0), 4);
        due("balance(1)", x.balance(1), 1);
        due("balance(2)", x.balance(2), 3);
        due("balance(3)", x.balance(3), NO);
        due("balance(-1)", x.balance(-1), NO);
        due("balance(min)", x.balance(Integer.MIN_VALUE), NO);
        promise = 20;
        due("steps()", x.steps(), 0);
        promise = 21;
        due("weight(0, 0, 0)", x.weight(0, 0, 0), 2);
        due("weight(0, 0, 1)", x.weight(0, 0, 1), 3);
        due("weight(2, 0, 0)", x.weight(2, 0, 0), 0);
        due("weight(2, 0, 1)", x.weight(2, 0, 1), 1);
        x.loads(0, 0);
        x.loads(1, 0);
        promise = 19;
        due("balance(0), no loads", x.balance(0), NO);
        promise = 20;
        due("steps(), no loads", x.steps(), -2);
        promise = 21;
        due("weight(0, 0, 0), no loads", x.weight(0, 0, 0), NO);
        promise = 22;
        due("left(0), no loads", x.left(0), -2);
        reductions();
        tightest();
        manyLoads();
    }

    private static void reductions() {
        // Weights 1/8, 2/8, 5/8 at 0, 6, 4: the tie (-1, -2, 3) times 5/24 leaves 1/3, 2/3, 0.
        RainbowHulls y = of("red 0 0 load 1; green 6 0 load 2; blue 4 0 load 5; red 9 9;");
        promise = 20;
        due("steps()", y.steps(), 1);
        promise = 21;
        due("weight(0, 0, 0)", y.weight(0, 0, 0), 1);
        due("weight(0, 0, 1)", y.weight(0, 0, 1), 8);
        due("weight(1, 0, 0)", y.weight(1, 0, 0), 1);
        due("weight(1, 0, 1)", y.weight(1, 0, 1), 4);
        due("weight(0, 1, 0)", y.weight(0, 1, 0), 1);
        due("weight(0, 1, 1)", y.weight(0, 1, 1), 3);
        due("weight(1, 1, 0)", y.weight(1, 1, 0), 2);
        due("weight(1, 1, 1)", y.weight(1, 1, 1), 3);
        due("weight(2, 1, 0)", y.weight(2, 1, 0), 0);
        due("weight(2, 1, 1)", y.weight(2, 1, 1), 1);
        due("weight(3, 1, 1)", y.weight(3, 1, 1), 1);
        due("weight(4, 0, 0)", y.weight(4, 0, 0), NO);
        due("weight(-1, 0, 0)", y.weight(-1, 0, 0), NO);
        due("weight(0, 2, 0)", y.weight(0, 2, 0), NO);
        due("weight(0, -1, 0)", y.weight(0, -1, 0), NO);
        due("weight(0, 0, 2)", y.weight(0, 0, 2), NO);
        due("weight(0, 0, -1)", y.weight(0, 0, -1), NO);
        promise = 22;
        due("left(0)", y.left(0), 7);
        due("left(1)", y.left(1), 3);
        due("left(2)", y.left(2), -2);
        due("left(-1)", y.left(-1), -2);
        due("left(max)", y.left(Integer.MAX_VALUE), -2);
    }

    private static void tightest() {
        // The tie -1, 1, -1, 1: the second has less than the fourth, 2 of it are taken from each.
        RainbowHulls x = of("red 0 0 load 5; red 4 0 load 2; red 4 4 load 5; red 0 4 load 7;");
        promise = 22;
        due("left(1)", x.left(1), 0b1101);
        promise = 21;
        due("weight(0, 1, 0)", x.weight(0, 1, 0), 7);
        due("weight(0, 1, 1)", x.weight(0, 1, 1), 19);
        due("weight(2, 1, 0)", x.weight(2, 1, 0), 7);
        due("weight(3, 1, 0)", x.weight(3, 1, 0), 5);
        // Both at once.
        x.loads(3, 2);
        promise = 22;
        due("left(1), both", x.left(1), 0b101);
        promise = 21;
        due("weight(0, 1, 0), both", x.weight(0, 1, 0), 1);
        due("weight(0, 1, 1), both", x.weight(0, 1, 1), 2);
    }

    private static void manyLoads() {
        RainbowHulls x = of("red 3 3, 3 3, 3 3, 3 3, 3 3, 3 3 load 7; green 1 1;");
        promise = 20;
        due("steps() of six at one place", x.steps(), 5);
        promise = 22;
        // The second goes onto the first, then the third, ...
        due("left(1)", x.left(1), 0b111101);
        due("left(4)", x.left(4), 0b100001);
        due("left(5)", x.left(5), 1);
        promise = 21;
        due("weight(0, 3, 0)", x.weight(0, 3, 0), 2);
        due("weight(0, 3, 1)", x.weight(0, 3, 1), 3);
        x.loads(6, 1);
        promise = 20;
        due("steps() of seven", x.steps(), -5);
        promise = 21;
        due("weight(0, 0, 0) of seven", x.weight(0, 0, 0), NO);
        promise = 22;
        due("left(0) of seven", x.left(0), -5);
        due("left(99) of seven", x.left(99), -5);
        due("left(-1) of seven", x.left(-1), -2);
        promise = 19;
        // (42 * 3 + 1) / 43
        due("balance(0) of seven", x.balance(0), 127);
        due("balance(2) of seven", x.balance(2), 43);
    }

    private static void rainbows() {
        // Reds 0, 1; greens 2, 3; blues 4, 5; the centre 0 0.
        RainbowHulls x = of("red -4 -1, 9 9; green 4 -2, 8 9; blue 0 5, 9 8;");
        promise = 23;
        due("rainbows()", x.rainbows(), 2);
        promise = 24;
        // (0, 2, 4); (0, 2, 5): (-4, -1), (4, -2), (9, 8); 0 0 is left of both its low sides and right of the third.
        due("rainbow(0, 0)", x.rainbow(0, 0), 0);
        due("rainbow(0, 1)", x.rainbow(0, 1), 2);
        due("rainbow(0, 2)", x.rainbow(0, 2), 4);
        due("rainbow(1, 2)", x.rainbow(1, 2), 5);
        due("rainbow(2, 0)", x.rainbow(2, 0), -1);
        due("rainbow(max, 0)", x.rainbow(Integer.MAX_VALUE, 0), -1);
        due("rainbow(-1, 0)", x.rainbow(-1, 0), -2);
        due("rainbow(0, 3)", x.rainbow(0, 3), -2);
        due("rainbow(0, -1)", x.rainbow(0, -1), -2);
        due("rainbow(9, 3)", x.rainbow(9, 3), -2);
        promise = 25;
        // Areas: green blue 4 * 5 = 20; blue red 0 * -1 - 5 * -4 = 20; red green 8 + 4 = 12.
        due("mixture(0, 2, 4, 0)", x.mixture(0, 2, 4, 0), 5);
        due("mixture(0, 2, 4, 1)", x.mixture(0, 2, 4, 1), 5);
        due("mixture(0, 2, 4, 2)", x.mixture(0, 2, 4, 2), 3);
        due("mixture(0, 2, 4, 3)", x.mixture(0, 2, 4, 3), 13);
        due("mixture(0, 2, 4, 4)", x.mixture(0, 2, 4, 4), NO);
        due("mixture(0, 2, 4, -1)", x.mixture(0, 2, 4, -1), NO);
        due("mixture(1, 3, 5, 0), not held", x.mixture(1, 3, 5, 0), NO);
        due("mixture(2, 0, 4, 0)", x.mixture(2, 0, 4, 0), NO);
        due("mixture(0, 2, 6, 0)", x.mixture(0, 2, 6, 0), NO);
        due("mixture(-1, 2, 4, 0)", x.mixture(-1, 2, 4, 0), NO);
        x.moves(4, 12, 3);
        // Red and blue are opposite: 3 : 1.
        due("mixture(0, 2, 4, 0), two", x.mixture(0, 2, 4, 0), 3);
        due("mixture(0, 2, 4, 1), two", x.mixture(0, 2, 4, 1), 0);
        due("mixture(0, 2, 4, 2), two", x.mixture(0, 2, 4, 2), 1);
        due("mixture(0, 2, 4, 3), two", x.mixture(0, 2, 4, 3), 4);
        x.moves(2, 0, 0);
        due("mixture(0, 2, 4, 1), one", x.mixture(0, 2, 4, 1), 1);
        due("mixture(0, 2, 4, 0), one", x.mixture(0, 2, 4, 0), 0);
        due("mixture(0, 2, 4, 3), one", x.mixture(0, 2, 4, 3), 1);
        mixturesOnOneLine();
        x.paints(5, 0);
        x.paints(4, 0);
        promise = 23;
        due("rainbows(), no blue", x.rainbows(), 0);
        promise = 24;
        due("rainbow(0, 2), no blue", x.rainbow(0, 2), -1);
    }

    private static void mixtureIs(String text, long red, long green, long blue, long lower) {
        RainbowHulls x = of(text);
        due("mixture(0, 1, 2, 0) of " + text, x.mixture(0, 1, 2, 0), red);
        due("mixture(0, 1, 2, 1) of " + text, x.mixture(0, 1, 2, 1), green);
        due("mixture(0, 1, 2, 2) of " + text, x.mixture(0, 1, 2, 2), blue);
        due("mixture(0, 1, 2, 3) of " + text, x.mixture(0, 1, 2, 3), lower);
    }

    private static void mixturesOnOneLine() {
        mixtureIs("red -2 0; green 1 0; blue 4 0;", 1, 2, 0, 3);
        mixtureIs("red 0 2; green 0 -1; blue 0 -5;", 1, 2, 0, 3);
        mixtureIs("red 1 1; green 2 2; blue -1 -1;", 1, 0, 1, 2);
        mixtureIs("red 0 0; green 1 0; blue -1 0;", 1, 0, 0, 1);
        mixtureIs("red 3 0; green 0 0; blue 0 0;", 0, 1, 0, 1);
        mixtureIs("red 3 0; green -3 0; blue 0 0;", 0, 0, 1, 1);
        mixtureIs("red 1 5; green -1 0; blue 3 0;", 0, 3, 1, 4);
        mixtureIs("red 6 8; green 7 8; blue -2 4; centre 6 8;", 1, 0, 0, 1);
        mixtureIs("red 1 0; green 2 0; blue 3 0;", NO, NO, NO, NO);
    }

    private static void exchanges() {
        RainbowHulls x = of("red 2 2, -3 0; green 3 4, 0 -3; blue 4 3, 5 1;");
        // From (0, 2, 4): nearest is red (2, 2), so green goes: products 14 and -6, and 8 is its own: green 3 comes.
        // Then (2, 2), (0, -3), (4, 3): 0 0 is right of red green by 6, nearest on it: way (2, 5), foot 6 / 29 (5, -2).
        // Blue goes: products 4 * 5 - 3 * 2 = 14 and 25 - 2 = 23 against 6: stuck.
        promise = 26;
        due("exchanges(0, 2, 4, 0)", x.exchanges(0, 2, 4, 0), 1);
        due("exchanges(0, 2, 4, 1)", x.exchanges(0, 2, 4, 1), 0);
        due("exchanges(0, 2, 4, 2)", x.exchanges(0, 2, 4, 2), -2);
        due("exchanges(0, 2, 4, -1)", x.exchanges(0, 2, 4, -1), -2);
        due("exchanges(0, 4, 2, 0)", x.exchanges(0, 4, 2, 0), -2);
        due("exchanges(6, 2, 4, 0)", x.exchanges(6, 2, 4, 0), -2);
        promise = 27;
        due("exchanged(0, 2, 4, 0, 0)", x.exchanged(0, 2, 4, 0, 0), 0);
        due("exchanged(0, 2, 4, 0, 1)", x.exchanged(0, 2, 4, 0, 1), 2);
        due("exchanged(0, 2, 4, 0, 3)", x.exchanged(0, 2, 4, 0, 3), -1);
        due("exchanged(0, 2, 4, 1, 0)", x.exchanged(0, 2, 4, 1, 0), 0);
        due("exchanged(0, 2, 4, 1, 1)", x.exchanged(0, 2, 4, 1, 1), 3);
        due("exchanged(0, 2, 4, 1, 2)", x.exchanged(0, 2, 4, 1, 2), 4);
        due("exchanged(0, 2, 4, 1, 3)", x.exchanged(0, 2, 4, 1, 3), 1);
        due("exchanged(0, 2, 4, 2, 0)", x.exchanged(0, 2, 4, 2, 0), -2);
        due("exchanged(0, 2, 4, -1, 0)", x.exchanged(0, 2, 4, -1, 0), -2);
        due("exchanged(0, 2, 4, 0, 4)", x.exchanged(0, 2, 4, 0, 4), -2);
        due("exchanged(0, 2, 4, 0, -1)", x.exchanged(0, 2, 4, 0, -1), -2);
        due("exchanged(0, 1, 4, 0, 0)", x.exchanged(0, 1, 4, 0, 0), -2);
        promise = 28;
        due("distance(0, 2, 4, 0, 0)", x.distance(0, 2, 4, 0, 0), 8);
        due("distance(0, 2, 4, 0, 1)", x.distance(0, 2, 4, 0, 1), 1);
        due("distance(0, 2, 4, 1, 0)", x.distance(0, 2, 4, 1, 0), 36);
        due("distance(0, 2, 4, 1, 1)", x.distance(0, 2, 4, 1, 1), 29);
        due("distance(0, 2, 4, 2, 0)", x.distance(0, 2, 4, 2, 0), NO);
        due("distance(0, 2, 4, -1, 0)", x.distance(0, 2, 4, -1, 0), NO);
        due("distance(0, 2, 4, 0, 2)", x.distance(0, 2, 4, 0, 2), NO);
        due("distance(2, 0, 4, 0, 0)", x.distance(2, 0, 4, 0, 0), NO);
        RainbowHulls y = of("red 0 4, 5 -5; green 4 4, -6 -6; blue 2 4, 9 -1;");
        // (0, 2, 4), all at y 4, the centre 0 0: red is nearest, green goes, (-6, -6) comes.
        promise = 27;
        due("exchanged(0, 2, 4, 1, 1)", y.exchanged(0, 2, 4, 1, 1), 3);
        y.centres(2, 0);
        // Blue (2, 4) is there: red goes, (5, -5) comes.
        due("exchanged(0, 2, 4, 1, 0), blue is the face", y.exchanged(0, 2, 4, 1, 0), 1);
        due("exchanged(0, 2, 4, 1, 3), blue is the face", y.exchanged(0, 2, 4, 1, 3), 0);
        y.centres(3, 0);
        // (3, 4) lies between red and green: blue goes, (9, -1) comes.
        due("exchanged(0, 2, 4, 1, 2), red green is the face", y.exchanged(0, 2, 4, 1, 2), 5);
        due("exchanged(0, 2, 4, 1, 3), red green is the face", y.exchanged(0, 2, 4, 1, 3), 2);
        y.moves(2, 0, 4);
        y.moves(4, 4, 4);
        // Red and green at one place, (3, 4) between red and blue: green goes.
        due("exchanged(0, 2, 4, 1, 3), red blue is the face", y.exchanged(0, 2, 4, 1, 3), 1);
        y.moves(0, 1, 9);
        // Red is away: green blue, red goes.
        due("exchanged(0, 2, 4, 1, 3), green blue is the face", y.exchanged(0, 2, 4, 1, 3), 0);
        starts(x);
    }

    private static void starts(RainbowHulls x) {
        promise = 29;
        RainbowHulls one = of("red 1 0; green 2 0; blue 3 0;");
        due("starts(0)", one.starts(0), 1);
        due("starts(1)", one.starts(1), 0);
        due("starts(2)", one.starts(2), -2);
        due("starts(-1)", one.starts(-1), -2);
        RainbowHulls two = of("red 1 0; green 2 0, -1 0, -1 0; blue 3 0;");
        // One start exchanges its green for the first at -1, two hold the centre at once.
        due("starts(0)", two.starts(0), 0);
        due("starts(1)", two.starts(1), 1);
        promise = 27;
        due("exchanged(0, 1, 4, 1, 1), the least of like ones", two.exchanged(0, 1, 4, 1, 1), 2);
        promise = 26;
        due("exchanges(0, 1, 4, 1)", two.exchanges(0, 1, 4, 1), 1);
        due("exchanges(0, 2, 4, 0)", two.exchanges(0, 2, 4, 0), 0);
        due("exchanges(0, 2, 4, 1)", two.exchanges(0, 2, 4, 1), 1);
        promise = 28;
        due("distance(0, 1, 4, 1, 0)", two.distance(0, 1, 4, 1, 0), 0);
        due("distance(0, 1, 4, 1, 1)", two.distance(0, 1, 4, 1, 1), 1);
        promise = 29;
        RainbowHulls none = of("red 1 0; green 2 0;");
        due("starts(0), none", none.starts(0), 0);
        due("starts(1), none", none.starts(1), 0);
        int stuck = 0;
        int most = 0;
        for (int r = 0; r < 2; r++) {
            for (int g = 2; g < 4; g++) {
                for (int b = 4; b < 6; b++) {
                    stuck += 1 - x.exchanges(r, g, b, 1);
                    most = Math.max(most, x.exchanges(r, g, b, 0));
                }
            }
        }
        due("starts(0)", x.starts(0), stuck);
        due("starts(1)", x.starts(1), most);
    }

    private static void meetings() {
        RainbowHulls x = of("red 0 0, 3 1, 0 2, 1 -1; green 5 0, 9 0; blue 8 4, 0 0;");
        promise = 30;
        due("meet(3, 12)", x.meet(3, 12), 1);
        due("meet(3, 48)", x.meet(3, 48), 0);
        due("meet(1, 128), one place", x.meet(1, 128), 1);
        due("meet(1, 1)", x.meet(1, 1), 1);
        due("meet(1, 2)", x.meet(1, 2), 0);
        promise = 31;
        // y = x / 3 and y = 2 - 3 x: x = 3 / 5, y = 1 / 5.
        due("meeting(3, 12, 0)", x.meeting(3, 12, 0), 3);
        due("meeting(3, 12, 1)", x.meeting(3, 12, 1), 1);
        due("meeting(3, 12, 2)", x.meeting(3, 12, 2), 5);
        due("meeting(12, 3, 0)", x.meeting(12, 3, 0), 3);
        due("meeting(3, 12, 3)", x.meeting(3, 12, 3), NO);
        due("meeting(3, 12, -1)", x.meeting(3, 12, -1), NO);
        due("meeting(3, 48, 0), none", x.meeting(3, 48, 0), NO);
        // The triangles have the whole side from (0, 0) to (0, 2): its low end is the least.
        due("meeting(7, 7, 0)", x.meeting(7, 7, 0), 0);
        due("meeting(7, 7, 1)", x.meeting(7, 7, 1), 0);
        RainbowHulls wide = of("red 0 0, 6 0; green 2 0, 9 0; blue 4 -3, 4 3;");
        due("meeting(3, 12, 0), along one line", wide.meeting(3, 12, 0), 2);
        due("meeting(3, 48, 0)", wide.meeting(3, 48, 0), 4);
        due("meeting(48, 63, 1), the least by y", wide.meeting(48, 63, 1), -3);
        promise = 32;
        due("apart(3, 12, 0), they meet", x.apart(3, 12, 0), NO);
        // From (3, 1) to (5, 0) .. (9, 0): (2, -1).
        due("apart(3, 48, 0)", x.apart(3, 48, 0), 5);
        due("apart(3, 48, 1)", x.apart(3, 48, 1), 1);
        due("apart(3, 48, 2)", x.apart(3, 48, 2), 2);
        due("apart(3, 48, 3)", x.apart(3, 48, 3), -1);
        due("apart(3, 48, 4)", x.apart(3, 48, 4), 10);
        due("apart(48, 3, 2), the other way", x.apart(48, 3, 2), -2);
        due("apart(48, 3, 3), the other way", x.apart(48, 3, 3), 1);
        due("apart(48, 3, 4), the other way", x.apart(48, 3, 4), -5);
        // From (1, -1) to the line x = 3 y: 4 / sqrt 10, 16 / 10 squared, direction (-1, 3).
        due("apart(8, 3, 0)", x.apart(8, 3, 0), 8);
        due("apart(8, 3, 1)", x.apart(8, 3, 1), 5);
        due("apart(8, 3, 2)", x.apart(8, 3, 2), -1);
        due("apart(8, 3, 3)", x.apart(8, 3, 3), 3);
        due("apart(8, 3, 4)", x.apart(8, 3, 4), 0);
        for (int what : STRANGE) {
            due("apart(8, 3, " + what + ")", x.apart(8, 3, what), NO);
        }
    }

    private static void partings() {
        RainbowHulls x = of("red 0 0, 4 0, 4 4, 0 4, 2 2; green 9 9, 9 8, 9 7;");
        promise = 33;
        due("partings(15, 2, 1)", x.partings(15, 2, 1), 7);
        due("partings(15, 2, 0)", x.partings(15, 2, 0), 1);
        due("partings(15, 3, 1)", x.partings(15, 3, 1), 6);
        due("partings(15, 3, 0)", x.partings(15, 3, 0), 0);
        due("partings(127, 2, 1)", x.partings(127, 2, 1), 63);
        due("partings(127, 3, 1)", x.partings(127, 3, 1), 301);
        due("partings(255, 2, 1), eight", x.partings(255, 2, 1), -2);
        due("partings(1, 2, 1)", x.partings(1, 2, 1), 0);
        due("partings(1, 2, 0)", x.partings(1, 2, 0), 0);
        due("partings(3, 3, 1)", x.partings(3, 3, 1), 0);
        due("partings(15, 1, 1)", x.partings(15, 1, 1), -2);
        due("partings(15, 4, 1)", x.partings(15, 4, 1), -2);
        due("partings(15, 2, 2)", x.partings(15, 2, 2), -2);
        due("partings(15, 2, -1)", x.partings(15, 2, -1), -2);
        promise = 34;
        due("part(15, 2, 0, 0)", x.part(15, 2, 0, 0), 5);
        due("part(15, 2, 0, 1)", x.part(15, 2, 0, 1), 10);
        due("part(15, 2, 1, 0)", x.part(15, 2, 1, 0), -1);
        due("part(15, 2, -1, 0)", x.part(15, 2, -1, 0), -2);
        due("part(15, 2, 0, 2)", x.part(15, 2, 0, 2), -2);
        due("part(15, 2, 0, -1)", x.part(15, 2, 0, -1), -2);
        due("part(15, 2, 9, 2)", x.part(15, 2, 9, 2), -2);
        due("part(15, 1, 0, 0)", x.part(15, 1, 0, 0), -2);
        due("part(15, 3, 0, 2)", x.part(15, 3, 0, 2), -1);
        due("part(255, 2, 0, 0)", x.part(255, 2, 0, 0), -2);
        // In three parts: the diagonals and the middle, 01012.
        due("partings(31, 3, 0)", x.partings(31, 3, 0), 1);
        due("part(31, 3, 0, 0)", x.part(31, 3, 0, 0), 5);
        due("part(31, 3, 0, 1)", x.part(31, 3, 0, 1), 10);
        due("part(31, 3, 0, 2)", x.part(31, 3, 0, 2), 16);
        // In two: 00001 has the middle in the square, 00011 the middle on a side of 0, 1, 2.
        due("part(31, 2, 0, 1)", x.part(31, 2, 0, 1), 16);
        due("part(31, 2, 1, 1)", x.part(31, 2, 1, 1), 24);
        promise = 35;
        due("met(15, 2, 0, 0)", x.met(15, 2, 0, 0), 2);
        due("met(15, 2, 0, 1)", x.met(15, 2, 0, 1), 2);
        due("met(15, 2, 0, 2)", x.met(15, 2, 0, 2), 1);
        due("met(15, 2, 0, 3)", x.met(15, 2, 0, 3), NO);
        due("met(15, 2, 0, -1)", x.met(15, 2, 0, -1), NO);
        due("met(15, 2, 1, 0)", x.met(15, 2, 1, 0), NO);
        due("met(15, 2, -1, 0)", x.met(15, 2, -1, 0), NO);
        due("met(15, 4, 0, 0)", x.met(15, 4, 0, 0), NO);
        due("met(255, 2, 0, 0)", x.met(255, 2, 0, 0), NO);
        due("met(31, 3, 0, 0)", x.met(31, 3, 0, 0), 2);
        RainbowHulls y = of("red 0 0, 3 1, 0 2, 1 -1;");
        due("met(15, 2, 0, 0)", y.met(15, 2, 0, 0), 3);
        due("met(15, 2, 0, 1)", y.met(15, 2, 0, 1), 1);
        due("met(15, 2, 0, 2)", y.met(15, 2, 0, 2), 5);
        RainbowHulls same = of("red 1 1, 1 1, 1 1;");
        promise = 34;
        // Rows 001, 010, 011.
        due("part(7, 2, 0, 1)", same.part(7, 2, 0, 1), 4);
        due("part(7, 2, 1, 1)", same.part(7, 2, 1, 1), 2);
        due("part(7, 2, 2, 1)", same.part(7, 2, 2, 1), 6);
        due("part(7, 2, 3, 1)", same.part(7, 2, 3, 1), -1);
    }

    private static void depths() {
        RainbowHulls x = of("red 0 0, 4 0; green 4 4, 0 4; blue 2 2, 2 2;");
        promise = 36;
        due("depth(2, 2)", x.depth(2, 2), 4);
        due("depth(0, 0)", x.depth(0, 0), 1);
        due("depth(2, 0)", x.depth(2, 0), 1);
        due("depth(1, 1)", x.depth(1, 1), 1);
        due("depth(5, 5)", x.depth(5, 5), 0);
        due("depth(20, -20)", x.depth(20, -20), 0);
        due("depth(-21, 0)", x.depth(-21, 0), -2);
        due("depth(0, 21)", x.depth(0, 21), -2);
        due("depth, none", new RainbowHulls().depth(0, 0), 0);
        promise = 37;
        // All hold (2, 2): those of the rim alone have it on a diagonal.
        due("triangles(2, 2, 0)", x.triangles(2, 2, 0), 20);
        due("triangles(2, 2, 1)", x.triangles(2, 2, 1), 8);
        // (1, 1): red 0 with one at (2, 2) and any other, 2 * 3 + 1, and with (4, 4) and one of the two left, 2.
        // 0 0, 4 0, 0 4 holds it, too.
        due("triangles(1, 1, 0)", x.triangles(1, 1, 0), 10);
        due("triangles(1, 1, 1)", x.triangles(1, 1, 1), 4);
        due("triangles(0, 0, 0)", x.triangles(0, 0, 0), 10);
        due("triangles(0, 1, 0)", x.triangles(0, 1, 0), 4);
        due("triangles(5, 0, 0)", x.triangles(5, 0, 0), 0);
        due("triangles(5, 0, 1)", x.triangles(5, 0, 1), 0);
        due("triangles(0, 0, 2)", x.triangles(0, 0, 2), -2);
        due("triangles(0, 0, -1)", x.triangles(0, 0, -1), -2);
        due("triangles(21, 0, 0)", x.triangles(21, 0, 0), -2);
        due("triangles(0, -21, 1)", x.triangles(0, -21, 1), -2);
        promise = 38;
        due("deepest(0)", x.deepest(0), 2);
        due("deepest(1)", x.deepest(1), 2);
        due("deepest(2)", x.deepest(2), 4);
        due("deepest(3)", x.deepest(3), NO);
        due("deepest(-1)", x.deepest(-1), NO);
        due("deepest(0), none", new RainbowHulls().deepest(0), NO);
        RainbowHulls y = of("red 20 20, -20 20, 20 -20;");
        due("deepest(0), the least", y.deepest(0), -20);
        due("deepest(1), the least", y.deepest(1), 20);
        due("deepest(2), the least", y.deepest(2), 1);
        RainbowHulls edge = of("red 20 20;");
        due("deepest(0), at the edge", edge.deepest(0), 20);
        due("deepest(1), at the edge", edge.deepest(1), 20);
        RainbowHulls z = of("red 3 7, 3 -7;");
        due("deepest(1), the least by y", z.deepest(1), -7);
        frees(x);
    }

    private static void frees(RainbowHulls x) {
        promise = 39;
        due("frees(0), a corner", x.frees(0), 1);
        due("frees(1), a corner", x.frees(1), 1);
        x.centres(2, 2);
        // Both at (2, 2), one of each diagonal: the least is 0 0 and 4 0.
        due("frees(0)", x.frees(0), 4);
        due("frees(1)", x.frees(1), 0b110011);
        x.centres(2, 0);
        due("frees(0), a side", x.frees(0), 1);
        due("frees(1), a side", x.frees(1), 1);
        x.centres(9, 9);
        due("frees(0), outside", x.frees(0), 0);
        due("frees(1), outside", x.frees(1), 0);
        due("frees(2)", x.frees(2), -2);
        due("frees(-1)", x.frees(-1), -2);
        RainbowHulls all = of("red 1 1, 1 1, 1 1; centre 1 1;");
        due("frees(0), all", all.frees(0), 3);
        due("frees(1), all", all.frees(1), 7);
        due("frees(0), none", new RainbowHulls().frees(0), 0);
        due("frees(1), none", new RainbowHulls().frees(1), 0);
    }

    private static void changes() {
        promise = 40;
        RainbowHulls x = new RainbowHulls();
        due("adds", x.adds(-20, 20, 2), 0);
        due("adds", x.adds(1, 2, 0), 1);
        due("adds", x.adds(3, 4, 1), 2);
        due("point(2, 2)", x.point(2, 2), 1);
        due("point(0, 1)", x.point(0, 1), 20);
        due("adds(21, 0, 0)", x.adds(21, 0, 0), -2);
        due("adds(0, -21, 0)", x.adds(0, -21, 0), -2);
        due("adds(0, 0, 3)", x.adds(0, 0, 3), -2);
        due("adds(0, 0, -1)", x.adds(0, 0, -1), -2);
        due("count(0)", x.count(0), 3);
        promise = 41;
        x.loads(1, 5);
        x.loads(2, 6);
        due("removes(3)", x.removes(3), -2);
        due("removes(-1)", x.removes(-1), -2);
        due("removes(0)", x.removes(0), 2);
        due("point(0, 0)", x.point(0, 0), 1);
        due("point(0, 3)", x.point(0, 3), 5);
        due("point(1, 1)", x.point(1, 1), 4);
        due("point(1, 2)", x.point(1, 2), 1);
        due("point(2, 0)", x.point(2, 0), NO);
        due("removes(1)", x.removes(1), 1);
        promise = 40;
        due("adds", x.adds(7, 7, 2), 1);
        due("point(1, 3), no load", x.point(1, 3), 0);
        promise = 42;
        due("moves(1, 7, 7)", x.moves(1, 7, 7), 0);
        due("moves(1, 7, 8)", x.moves(1, 7, 8), 1);
        due("moves(1, 6, 8)", x.moves(1, 6, 8), 1);
        due("point(1, 0)", x.point(1, 0), 6);
        due("point(1, 1)", x.point(1, 1), 8);
        due("moves(1, 21, 0)", x.moves(1, 21, 0), -2);
        due("moves(1, 0, -21)", x.moves(1, 0, -21), -2);
        due("moves(2, 0, 0)", x.moves(2, 0, 0), -2);
        due("moves(-1, 0, 0)", x.moves(-1, 0, 0), -2);
        due("point(1, 0)", x.point(1, 0), 6);
        promise = 43;
        due("paints(1, 0)", x.paints(1, 0), 2);
        due("paints(1, 1)", x.paints(1, 1), 0);
        due("paints(1, 3)", x.paints(1, 3), -2);
        due("paints(1, -1)", x.paints(1, -1), -2);
        due("paints(2, 0)", x.paints(2, 0), -2);
        due("point(1, 2)", x.point(1, 2), 1);
        promise = 44;
        due("loads(0, 99)", x.loads(0, 99), 5);
        due("loads(0, 0)", x.loads(0, 0), 99);
        due("loads(0, 100)", x.loads(0, 100), -2);
        due("loads(0, -1)", x.loads(0, -1), -2);
        due("loads(2, 1)", x.loads(2, 1), -2);
        due("loads(-1, 1)", x.loads(-1, 1), -2);
        due("point(0, 3)", x.point(0, 3), 0);
        promise = 45;
        due("centres(0, 0)", x.centres(0, 0), 0);
        due("centres(0, 20)", x.centres(0, 20), 1);
        due("centres(-20, 20)", x.centres(-20, 20), 1);
        due("centres(-20, 20)", x.centres(-20, 20), 0);
        due("centres(21, 0)", x.centres(21, 0), -2);
        due("centres(0, -21)", x.centres(0, -21), -2);
        due("centre(0)", x.centre(0), -20);
        due("centre(1)", x.centre(1), 20);
        promise = 40;
        for (int i = 2; i < 24; i++) {
            due("adds", x.adds(0, 0, 0), i);
        }
        due("adds, a 25th", x.adds(0, 0, 0), -5);
        due("adds, a 25th, no colour", x.adds(0, 0, 3), -2);
        due("count(0)", x.count(0), 24);
        due("corners of all", x.corners((1 << 24) - 1), 3);
        due("corners beyond", x.corners(1 << 24), -2);
        promise = 41;
        due("removes(23)", x.removes(23), 23);
    }

    public static void main(String[] args) {
        news();
        feeds();
        ends();
        texts();
        faults();
        states();
        hulls();
        nearests();
        ties();
        balances();
        rainbows();
        exchanges();
        meetings();
        partings();
        depths();
        changes();
        System.out.println(wrong == 0 ? "all answers are as due" : wrong + " answers are not as due");
        if (wrong != 0) {
            System.exit(1);
        }
    }
}
