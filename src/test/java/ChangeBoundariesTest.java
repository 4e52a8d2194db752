import java.util.function.Supplier;

/** The boundary cases of promises 40 to 45: points that come, go, move, are painted, loaded; the centre. */
public final class ChangeBoundariesTest {
    public static void main(String[] args) throws Exception {
        Cases.run(ChangeBoundariesTest.class);
    }

    /** Three points, a centre, a fault that was told, bytes on the tape. */
    private static RainbowHulls three() {
        RainbowHulls x = Cases.of("red 1 2 load 3; green 4 5; blue 6 7 load 8; centre 9 -9;");
        Cases.tape(x, "red 21 1;");
        x.points();
        Cases.tape(x, "blue 5 5 load 5;");
        return x;
    }

    private static RainbowHulls full() {
        return Cases.of(Cases.many("red", 12, "1 1") + " load 2;" + Cases.many("blue", 12, "2 2") + "; centre 3 3;");
    }

    private static void pointIs(RainbowHulls x, int point, long... four) {
        Cases.dueAll("point(" + point + ", what)", w -> x.point(point, w), four);
    }

    // ---- 40: adds ----

    static void promise40BoundsOfX() {
        RainbowHulls x = new RainbowHulls();
        Cases.due("-20", x.adds(-20, 0, 0), 0);
        Cases.due("20", x.adds(20, 0, 0), 1);
        pointIs(x, 0, -20, 0, 0, 0);
        pointIs(x, 1, 20, 0, 0, 0);
        for (int a : new int[] {-21, 21, Cases.LOW, Cases.HIGH}) {
            Cases.refused("adds(" + a + ", 0, 0)", ChangeBoundariesTest::three, y -> y.adds(a, 0, 0), -2);
        }
    }

    static void promise40BoundsOfY() {
        RainbowHulls x = new RainbowHulls();
        Cases.due("-20", x.adds(0, -20, 0), 0);
        Cases.due("20", x.adds(0, 20, 0), 1);
        pointIs(x, 0, 0, -20, 0, 0);
        pointIs(x, 1, 0, 20, 0, 0);
        for (int a : new int[] {-21, 21, Cases.LOW, Cases.HIGH}) {
            Cases.refused("adds(0, " + a + ", 0)", ChangeBoundariesTest::three, y -> y.adds(0, a, 0), -2);
        }
    }

    static void promise40Colours() {
        RainbowHulls x = new RainbowHulls();
        for (int c = 0; c < 3; c++) {
            Cases.due("colour " + c, x.adds(1, 1, c), c);
            pointIs(x, c, 1, 1, c, 0);
        }
        for (int c : new int[] {-1, 3, Cases.LOW, Cases.HIGH}) {
            Cases.refused("adds(0, 0, " + c + ")", ChangeBoundariesTest::three, y -> y.adds(0, 0, c), -2);
        }
    }

    static void promise40BehindAll() {
        RainbowHulls x = three();
        Cases.due("adds", x.adds(-1, -2, 1), 3);
        pointIs(x, 0, 1, 2, 0, 3);
        pointIs(x, 2, 6, 7, 2, 8);
        pointIs(x, 3, -1, -2, 1, 0);
        Cases.due("the same place once more", x.adds(-1, -2, 1), 4);
        Cases.due("count(0)", x.count(0), 5);
        Cases.dueAll("centre", x::centre, 9, -9);
        Cases.due("count(5)", x.count(5), 16);
    }

    static void promise40ThereAre24() {
        RainbowHulls x = Cases.of(Cases.many("red", 22, "1 1") + ";");
        Cases.due("the 23rd", x.adds(1, 1, 1), 22);
        Cases.due("the 24th", x.adds(1, 1, 2), 23);
        Cases.due("a 25th", x.adds(1, 1, 2), -5);
        Cases.due("count(0)", x.count(0), 24);
        Cases.refused("a 25th", ChangeBoundariesTest::full, y -> y.adds(1, 1, 1), -5);
        x.removes(5);
        Cases.due("the 24th again", x.adds(7, 7, 1), 23);
        pointIs(x, 23, 7, 7, 1, 0);
    }

    static void promise40NoSuchAheadOf24() {
        Cases.refused("x", ChangeBoundariesTest::full, y -> y.adds(21, 0, 0), -2);
        Cases.refused("y", ChangeBoundariesTest::full, y -> y.adds(0, -21, 0), -2);
        Cases.refused("colour", ChangeBoundariesTest::full, y -> y.adds(0, 0, 3), -2);
    }

    static void promise40LoadIsZeroAtFirst() {
        RainbowHulls x = Cases.of("red 1 1, 2 2 load 9;");
        x.removes(1);
        x.adds(3, 3, 0);
        pointIs(x, 1, 3, 3, 0, 0);
        x.loads(1, 5);
        x.removes(0);
        x.adds(4, 4, 0);
        pointIs(x, 0, 3, 3, 0, 5);
        pointIs(x, 1, 4, 4, 0, 0);
    }

    // ---- 41: removes ----

    static void promise41Points() {
        Supplier<RainbowHulls> made = ChangeBoundariesTest::three;
        for (int p : new int[] {-1, 3, 24, Cases.LOW, Cases.HIGH}) {
            Cases.refused("removes(" + p + ")", made, y -> y.removes(p), -2);
        }
        Cases.refused("removes(24)", ChangeBoundariesTest::full, y -> y.removes(24), -2);
        Cases.due("removes(23)", full().removes(23), 23);
        Cases.due("without points", new RainbowHulls().removes(0), -2);
    }

    static void promise41ThoseBehindItHaveNumbersLess() {
        RainbowHulls first = three();
        Cases.due("removes(0)", first.removes(0), 2);
        pointIs(first, 0, 4, 5, 1, 0);
        pointIs(first, 1, 6, 7, 2, 8);
        pointIs(first, 2, Cases.NO, Cases.NO, Cases.NO, Cases.NO);
        RainbowHulls middle = three();
        Cases.due("removes(1)", middle.removes(1), 2);
        pointIs(middle, 0, 1, 2, 0, 3);
        pointIs(middle, 1, 6, 7, 2, 8);
        RainbowHulls last = three();
        Cases.due("removes(2)", last.removes(2), 2);
        pointIs(last, 0, 1, 2, 0, 3);
        pointIs(last, 1, 4, 5, 1, 0);
        pointIs(last, 2, Cases.NO, Cases.NO, Cases.NO, Cases.NO);
        Cases.dueAll("centre", last::centre, 9, -9);
        Cases.dueAll("fault", last::fault, 2, 4);
        Cases.due("count(5)", last.count(5), 16);
    }

    static void promise41TillThereAreNone() {
        RainbowHulls x = three();
        Cases.due("removes(0)", x.removes(0), 2);
        Cases.due("removes(0)", x.removes(0), 1);
        Cases.due("removes(0)", x.removes(0), 0);
        Cases.due("removes(0)", x.removes(0), -2);
        Cases.dueAll("count", x::count, 0, 0, 0, 0, 0);
    }

    static void promise41OfAll24() {
        RainbowHulls x = full();
        x.moves(23, -5, -6);
        x.loads(23, 9);
        Cases.due("removes(0)", x.removes(0), 23);
        pointIs(x, 22, -5, -6, 2, 9);
        pointIs(x, 10, 1, 1, 0, 2);
        pointIs(x, 11, 2, 2, 2, 0);
        pointIs(x, 23, Cases.NO);
    }

    // ---- 42: moves ----

    static void promise42BoundsOfX() {
        RainbowHulls x = three();
        Cases.dueAt("moves", a -> x.moves(1, a, 5), 1, -20, 20);
        pointIs(x, 1, 20, 5, 1, 0);
        for (int a : new int[] {-21, 21, Cases.LOW, Cases.HIGH}) {
            Cases.refused("moves(1, " + a + ", 0)", ChangeBoundariesTest::three, y -> y.moves(1, a, 0), -2);
        }
    }

    static void promise42BoundsOfY() {
        RainbowHulls x = three();
        Cases.dueAt("moves", a -> x.moves(1, 4, a), 1, -20, 20);
        pointIs(x, 1, 4, 20, 1, 0);
        for (int a : new int[] {-21, 21, Cases.LOW, Cases.HIGH}) {
            Cases.refused("moves(1, 0, " + a + ")", ChangeBoundariesTest::three, y -> y.moves(1, 0, a), -2);
        }
    }

    static void promise42Points() {
        for (int p : new int[] {-1, 3, 24, Cases.LOW, Cases.HIGH}) {
            Cases.refused("moves(" + p + ", 0, 0)", ChangeBoundariesTest::three, y -> y.moves(p, 0, 0), -2);
        }
        Cases.refused("moves(24, 0, 0)", ChangeBoundariesTest::full, y -> y.moves(24, 0, 0), -2);
        Cases.due("moves(23, 0, 0)", full().moves(23, 0, 0), 1);
        Cases.due("without points", new RainbowHulls().moves(0, 0, 0), -2);
    }

    static void promise42ElsewhereOrNot() {
        RainbowHulls x = three();
        Cases.due("the same place", x.moves(2, 6, 7), 0);
        Cases.due("another x", x.moves(2, 5, 7), 1);
        Cases.due("another y", x.moves(2, 5, 8), 1);
        Cases.due("the same place", x.moves(2, 5, 8), 0);
        Cases.due("onto another point", x.moves(2, 1, 2), 1);
        pointIs(x, 0, 1, 2, 0, 3);
        pointIs(x, 1, 4, 5, 1, 0);
        pointIs(x, 2, 1, 2, 2, 8);
    }

    // ---- 43: paints ----

    static void promise43Colours() {
        RainbowHulls x = three();
        Cases.due("paints(0, 2)", x.paints(0, 2), 0);
        Cases.due("paints(0, 1)", x.paints(0, 1), 2);
        Cases.due("paints(0, 1), the same", x.paints(0, 1), 1);
        Cases.due("paints(0, 0)", x.paints(0, 0), 1);
        pointIs(x, 0, 1, 2, 0, 3);
        for (int c : new int[] {-1, 3, Cases.LOW, Cases.HIGH}) {
            Cases.refused("paints(0, " + c + ")", ChangeBoundariesTest::three, y -> y.paints(0, c), -2);
        }
    }

    static void promise43Points() {
        for (int p : new int[] {-1, 3, 24, Cases.LOW, Cases.HIGH}) {
            Cases.refused("paints(" + p + ", 1)", ChangeBoundariesTest::three, y -> y.paints(p, 1), -2);
        }
        RainbowHulls x = three();
        Cases.due("paints(2, 0)", x.paints(2, 0), 2);
        Cases.dueAll("count", x::count, 3, 0b101, 0b010, 0, 0b101);
        Cases.due("paints(23, 1)", full().paints(23, 1), 2);
        Cases.refused("paints(24, 1)", ChangeBoundariesTest::full, y -> y.paints(24, 1), -2);
        Cases.due("without points", new RainbowHulls().paints(0, 0), -2);
    }

    // ---- 44: loads ----

    static void promise44BoundsOfALoad() {
        RainbowHulls x = three();
        Cases.due("loads(0, 99)", x.loads(0, 99), 3);
        Cases.due("loads(0, 0)", x.loads(0, 0), 99);
        Cases.due("loads(0, 0), the same", x.loads(0, 0), 0);
        Cases.due("loads(0, 1)", x.loads(0, 1), 0);
        pointIs(x, 0, 1, 2, 0, 1);
        pointIs(x, 1, 4, 5, 1, 0);
        for (int load : new int[] {-1, 100, Cases.LOW, Cases.HIGH}) {
            Cases.refused("loads(0, " + load + ")", ChangeBoundariesTest::three, y -> y.loads(0, load), -2);
        }
    }

    static void promise44Points() {
        for (int p : new int[] {-1, 3, 24, Cases.LOW, Cases.HIGH}) {
            Cases.refused("loads(" + p + ", 1)", ChangeBoundariesTest::three, y -> y.loads(p, 1), -2);
        }
        Cases.due("loads(2, 1)", three().loads(2, 1), 8);
        Cases.due("loads(23, 1)", full().loads(23, 1), 0);
        Cases.refused("loads(24, 1)", ChangeBoundariesTest::full, y -> y.loads(24, 1), -2);
        Cases.due("without points", new RainbowHulls().loads(0, 1), -2);
    }

    // ---- 45: centres ----

    static void promise45BoundsOfX() {
        RainbowHulls x = three();
        Cases.dueAt("centres(x, -9)", a -> x.centres(a, -9), 1, -20, 20);
        Cases.dueAll("centre", x::centre, 20, -9);
        for (int a : new int[] {-21, 21, Cases.LOW, Cases.HIGH}) {
            Cases.refused("centres(" + a + ", 0)", ChangeBoundariesTest::three, y -> y.centres(a, 0), -2);
        }
    }

    static void promise45BoundsOfY() {
        RainbowHulls x = three();
        Cases.dueAt("centres(9, y)", a -> x.centres(9, a), 1, -20, 20);
        Cases.dueAll("centre", x::centre, 9, 20);
        for (int a : new int[] {-21, 21, Cases.LOW, Cases.HIGH}) {
            Cases.refused("centres(0, " + a + ")", ChangeBoundariesTest::three, y -> y.centres(0, a), -2);
        }
    }

    static void promise45ElsewhereOrNot() {
        RainbowHulls x = three();
        Cases.due("the same", x.centres(9, -9), 0);
        Cases.due("another x", x.centres(8, -9), 1);
        Cases.due("another y", x.centres(8, -8), 1);
        Cases.due("the same", x.centres(8, -8), 0);
        Cases.due("count(0)", x.count(0), 3);
        pointIs(x, 0, 1, 2, 0, 3);
        Cases.due("0, 0 of a new object", new RainbowHulls().centres(0, 0), 0);
    }
}
