import java.util.LinkedHashMap;
import java.util.Map;
import java.util.function.ToLongFunction;

/** "At most 512 calls": the 512th is answered like any other; and what only asks changes nothing. */
public final class CallBoundariesTest {
    private static final int MOST_CALLS = 512;
    private static final String TEXT = "red -1 5, 10 9, -4 3 load 4; green -4 12, 10 10, -3 -2 load 5;"
        + "blue 8 -7, 6 -12, 3 5; centre 1 -1;";

    public static void main(String[] args) throws Exception {
        Cases.run(CallBoundariesTest.class);
    }

    /** Nine points, six of them with a load, a text on the tape that would be read. */
    private static RainbowHulls made() {
        RainbowHulls x = Cases.of(TEXT);
        Cases.tape(x, "red 1 1; blue 2 2;");
        return x;
    }

    private static int callsToMake() {
        int feeds = (TEXT.length() + 19) / 20 + 1;
        return feeds + 2 + 1;
    }

    private static Map<String, ToLongFunction<RainbowHulls>> questions() {
        Map<String, ToLongFunction<RainbowHulls>> calls = new LinkedHashMap<>();
        calls.put("fault", x -> x.fault(0));
        calls.put("count", x -> x.count(4));
        calls.put("point", x -> x.point(8, 1));
        calls.put("centre", x -> x.centre(1));
        calls.put("corners", x -> x.corners(511));
        calls.put("corner", x -> x.corner(511, 3));
        calls.put("area", x -> x.area(511));
        calls.put("places", x -> x.places(511));
        calls.put("where", x -> x.where(511, 2, 2));
        calls.put("holds", x -> x.holds(511));
        calls.put("nearest", x -> x.nearest(0b1011, 3));
        calls.put("line", x -> x.line(0b1011, 2));
        calls.put("tie", x -> x.tie(511, 3));
        calls.put("radon", x -> x.radon(511, 2));
        calls.put("balance", x -> x.balance(0));
        calls.put("steps", x -> x.steps());
        calls.put("weight", x -> x.weight(2, 2, 0));
        calls.put("left", x -> x.left(2));
        calls.put("rainbows", x -> x.rainbows());
        calls.put("rainbow", x -> x.rainbow(2, 1));
        calls.put("mixture", x -> x.mixture(x.rainbow(0, 0), x.rainbow(0, 1), x.rainbow(0, 2), 3));
        calls.put("exchanges", x -> x.exchanges(1, 3, 8, 0));
        calls.put("exchanged", x -> x.exchanged(1, 3, 8, 1, 3));
        calls.put("distance", x -> x.distance(1, 3, 8, 1, 0));
        calls.put("starts", x -> x.starts(1));
        calls.put("meet", x -> x.meet(0b1011, 0b110100));
        calls.put("meeting", x -> x.meeting(0b000111, 0b111000, 0));
        calls.put("apart", x -> x.apart(0b11, 0b11 << 6, 0));
        calls.put("partings", x -> x.partings(127, 3, 0));
        calls.put("part", x -> x.part(127, 2, 3, 1));
        calls.put("met", x -> x.met(127, 3, 0, 0));
        calls.put("depth", x -> x.depth(2, 2));
        calls.put("triangles", x -> x.triangles(2, 2, 0));
        calls.put("deepest", x -> x.deepest(0));
        calls.put("frees", x -> x.frees(1));
        return calls;
    }

    private static Map<String, ToLongFunction<RainbowHulls>> changes() {
        Map<String, ToLongFunction<RainbowHulls>> calls = new LinkedHashMap<>();
        calls.put("feed", x -> x.feed(0x20202020, 0, 0, 0, 0));
        calls.put("end", x -> x.end(8));
        calls.put("points", x -> x.points());
        calls.put("adds", x -> x.adds(5, 5, 2));
        calls.put("removes", x -> x.removes(4));
        calls.put("moves", x -> x.moves(4, 0, 0));
        calls.put("paints", x -> x.paints(4, 2));
        calls.put("loads", x -> x.loads(4, 9));
        calls.put("centres", x -> x.centres(2, 3));
        return calls;
    }

    static void calls512TheLastOneAsks() {
        questions().forEach((name, call) -> {
            // The mixture's points are asked for, too.
            int own = name.equals("mixture") ? 4 : 1;
            RainbowHulls worn = made();
            for (int i = callsToMake(); i < MOST_CALLS - own; i++) {
                worn.depth(i % 21, i % 7);
            }
            Cases.due("the 512th call, " + name, call.applyAsLong(worn), call.applyAsLong(made()));
        });
    }

    static void calls512TheLastOneChanges() {
        changes().forEach((name, call) -> {
            RainbowHulls worn = made();
            for (int i = callsToMake(); i < MOST_CALLS - 1; i++) {
                worn.where(511, i % 21, i % 7);
            }
            Cases.due("the 512th call, " + name, call.applyAsLong(worn), call.applyAsLong(made()));
        });
    }

    static void calls512OfTheTape() {
        RainbowHulls x = new RainbowHulls();
        for (int i = 0; i < 170; i++) {
            Cases.due("feed", x.feed(0x72656420, 0x312d323b, 0x20202020, 0x20202020, 0x20202020), 20);
            Cases.due("points()", x.points(), 1);
            Cases.due("fault(0)", x.fault(0), 0);
        }
        Cases.due("the 511th call, feed", x.feed(0x72656420, 0x312d323b, 0x20202020, 0x20202020, 0x20202020), 20);
        Cases.due("the 512th call, points()", x.points(), 1);
    }

    static void calls512PointsComeAndGo() {
        RainbowHulls x = new RainbowHulls();
        for (int i = 0; i < 256; i++) {
            Cases.due("adds", x.adds(i % 20, 1, 0), 0);
            Cases.due("removes", x.removes(0), 0);
        }
    }

    static void callsThatAskChangeNothing() {
        questions().forEach((name, call) -> Cases.refused(name, CallBoundariesTest::made, call, call.applyAsLong(made())));
    }

    static void callsThatAskDoNotDependOnEachOther() {
        Map<String, ToLongFunction<RainbowHulls>> all = questions();
        all.forEach((name, call) -> {
            long alone = call.applyAsLong(made());
            RainbowHulls x = made();
            all.forEach((before, other) -> {
                other.applyAsLong(x);
                Cases.due(name + " behind " + before, call.applyAsLong(x), alone);
            });
        });
    }
}
