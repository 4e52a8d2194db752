public final class RainbowHulls {
    public static final int NONE = -1;
    public static final long NO_SUCH = Long.MIN_VALUE;

    private static final int UNKNOWN = -2;
    private static final int FAULTY = -4;
    private static final int TOO_MANY = -5;
    private static final int MOST_POINTS = 24;
    private static final int MOST_BYTES = 600;
    private static final int MOST_LOADED = 6;
    private static final int MOST_PARTED = 7;
    private static final int HIGHEST_LOAD = 99;
    private static final int FARTHEST = 20;
    private static final int COLOURS = 3;

    private final Cloud cloud;
    private final Reader reader;
    private final Hull hull;
    private final Near near;
    private final Tie firstTie;
    private final Reducer reducer;
    private final Rainbows chooser;
    private final Meeting pair;
    private final Partings divider;
    private final Depths depths;
    private final Place spot;

    public RainbowHulls() {
        cloud = new Cloud();
        reader = new Reader();
        hull = new Hull();
        near = new Near();
        firstTie = new Tie();
        reducer = new Reducer();
        chooser = new Rainbows();
        pair = new Meeting();
        divider = new Partings();
        depths = new Depths();
        spot = new Place();
    }

    // ---- the tape, and what it tells ----

    public int feed(int a, int b, int c, int d, int e) {
        if (!reader.hasRoom(20)) {
            return NONE;
        }
        reader.append(a);
        reader.append(b);
        reader.append(c);
        reader.append(d);
        reader.append(e);
        return reader.length;
    }

    public int end(int n) {
        if (n < 0 || n > reader.length) {
            return NONE;
        }
        reader.length = n;
        return n;
    }

    public int points() {
        boolean clean = reader.readText();
        reader.length = 0;
        if (!clean) {
            return FAULTY;
        }
        cloud.copyFrom(reader.draft);
        return cloud.size;
    }

    public int fault(int what) {
        switch (what) {
            case 0: return reader.faultKind;
            case 1: return reader.faultPlace;
            default: return NONE;
        }
    }

    public int count(int what) {
        switch (what) {
            case 0: return cloud.size;
            case 1:
            case 2:
            case 3: return cloud.bitsOfColour(what - 1);
            case 4: return cloud.bitsLoaded();
            case 5: return reader.length;
            default: return NONE;
        }
    }

    public long point(int point, int what) {
        if (!cloud.has(point)) {
            return NO_SUCH;
        }
        switch (what) {
            case 0: return cloud.x[point];
            case 1: return cloud.y[point];
            case 2: return cloud.colour[point];
            case 3: return cloud.load[point];
            default: return NO_SUCH;
        }
    }

    public long centre(int what) {
        switch (what) {
            case 0: return cloud.centreX;
            case 1: return cloud.centreY;
            default: return NO_SUCH;
        }
    }

    // ---- hulls ----

    public int corners(int set) {
        if (!cloud.hasSet(set)) {
            return UNKNOWN;
        }
        hull.build(cloud, set);
        return hull.size;
    }

    public int corner(int set, int i) {
        if (!cloud.hasSet(set) || i < 0) {
            return UNKNOWN;
        }
        hull.build(cloud, set);
        return i < hull.size ? hull.chain[i] : NONE;
    }

    public int area(int set) {
        if (!cloud.hasSet(set)) {
            return UNKNOWN;
        }
        hull.build(cloud, set);
        return hull.doubleArea();
    }

    public int places(int set) {
        if (!cloud.hasSet(set)) {
            return UNKNOWN;
        }
        hull.build(cloud, set);
        return hull.wholePlaces();
    }

    public int where(int set, int x, int y) {
        if (!cloud.hasSet(set) || !isPlace(x, y)) {
            return UNKNOWN;
        }
        hull.build(cloud, set);
        return hull.sideOf(x, y, 1);
    }

    public int holds(int set) {
        if (!cloud.hasSet(set)) {
            return UNKNOWN;
        }
        hull.build(cloud, set);
        return hull.sideOf(cloud.centreX, cloud.centreY, 1) > 0 ? 1 : 0;
    }

    public long nearest(int set, int what) {
        if (!cloud.hasSet(set)) {
            return NO_SUCH;
        }
        hull.build(cloud, set);
        near.findOnHull(hull, cloud.centreX, cloud.centreY);
        near.bringToLowestTerms();
        switch (what) {
            case 0: return near.x;
            case 1: return near.y;
            case 2: return near.lower;
            case 3: return near.square;
            case 4: return near.squareLower;
            default: return NO_SUCH;
        }
    }

    public long line(int set, int what) {
        if (!cloud.hasSet(set)) {
            return NO_SUCH;
        }
        hull.build(cloud, set);
        near.findOnHull(hull, cloud.centreX, cloud.centreY);
        long a = near.wayX();
        long b = near.wayY();
        long common = gcd(a, b);
        if (common == 0) {
            return NO_SUCH;
        }
        switch (what) {
            case 0: return a / common;
            case 1: return b / common;
            case 2: return hull.leastAlong(a / common, b / common);
            default: return NO_SUCH;
        }
    }

    // ---- ties, loads ----

    public long tie(int set, int point) {
        if (!cloud.hasSet(set) || !cloud.has(point) || !firstTie.find(cloud, set)) {
            return NO_SUCH;
        }
        return firstTie.factorOf(point);
    }

    public long radon(int set, int what) {
        if (!cloud.hasSet(set) || !firstTie.find(cloud, set)) {
            return NO_SUCH;
        }
        firstTie.locate(cloud, spot);
        switch (what) {
            case 0: return firstTie.bitsAbove();
            case 1: return firstTie.bitsBelow();
            default: return coordinate(spot, what - 2L);
        }
    }

    public long balance(int what) {
        if (!cloud.locateBalance(spot)) {
            return NO_SUCH;
        }
        return coordinate(spot, what);
    }

    public int steps() {
        int refusal = reducer.begin(cloud);
        return refusal != 0 ? refusal : reducer.run(cloud, MOST_LOADED);
    }

    public long weight(int point, int k, int what) {
        if (!cloud.has(point) || k < 0 || reducer.begin(cloud) != 0 || reducer.run(cloud, k) != k) {
            return NO_SUCH;
        }
        long up = reducer.up[point];
        long common = gcd(up, reducer.lower);
        if (common == 0) {
            return NO_SUCH;
        }
        switch (what) {
            case 0: return up / common;
            case 1: return reducer.lower / common;
            default: return NO_SUCH;
        }
    }

    public int left(int k) {
        if (k < 0) {
            return UNKNOWN;
        }
        int refusal = reducer.begin(cloud);
        if (refusal != 0) {
            return refusal;
        }
        return reducer.run(cloud, k) == k ? reducer.alive : UNKNOWN;
    }

    // ---- one point of each colour ----

    public int rainbows() {
        return chooser.countHolding(cloud, cloud.centreX, cloud.centreY);
    }

    public int rainbow(int k, int colour) {
        if (k < 0 || !isColour(colour)) {
            return UNKNOWN;
        }
        return chooser.seekHolding(cloud, k) ? chooser.chosen[colour] : NONE;
    }

    public long mixture(int red, int green, int blue, int what) {
        if (!cloud.isRainbow(red, green, blue) || what < 0 || what > COLOURS) {
            return NO_SUCH;
        }
        chooser.choose(red, green, blue);
        return chooser.mix(cloud) ? chooser.mixed[what] : NO_SUCH;
    }

    public int exchanges(int red, int green, int blue, int what) {
        if (!cloud.isRainbow(red, green, blue)) {
            return UNKNOWN;
        }
        chooser.choose(red, green, blue);
        int made = chooser.run(cloud, Rainbows.MOST_RAINBOWS);
        switch (what) {
            case 0: return made;
            case 1: return chooser.near.square == 0 ? 1 : 0;
            default: return UNKNOWN;
        }
    }

    public int exchanged(int red, int green, int blue, int k, int what) {
        if (!cloud.isRainbow(red, green, blue) || k < 0) {
            return UNKNOWN;
        }
        chooser.choose(red, green, blue);
        if (chooser.run(cloud, k) != k) {
            return UNKNOWN;
        }
        switch (what) {
            case 0:
            case 1:
            case 2: return chooser.chosen[what];
            case 3: return chooser.gone;
            default: return UNKNOWN;
        }
    }

    public long distance(int red, int green, int blue, int k, int what) {
        if (!cloud.isRainbow(red, green, blue) || k < 0) {
            return NO_SUCH;
        }
        chooser.choose(red, green, blue);
        if (chooser.run(cloud, k) != k) {
            return NO_SUCH;
        }
        chooser.look(cloud);
        chooser.near.bringToLowestTerms();
        switch (what) {
            case 0: return chooser.near.square;
            case 1: return chooser.near.squareLower;
            default: return NO_SUCH;
        }
    }

    public int starts(int what) {
        switch (what) {
            case 0:
                chooser.runAll(cloud);
                return chooser.stuck;
            case 1:
                chooser.runAll(cloud);
                return chooser.longest;
            default: return UNKNOWN;
        }
    }

    // ---- sets that meet, or are apart ----

    public int meet(int set, int other) {
        if (!cloud.hasSet(set) || !cloud.hasSet(other)) {
            return UNKNOWN;
        }
        pair.take(cloud, set, other);
        return pair.find() ? 1 : 0;
    }

    public long meeting(int set, int other, int what) {
        if (!cloud.hasSet(set) || !cloud.hasSet(other)) {
            return NO_SUCH;
        }
        pair.take(cloud, set, other);
        return pair.find() ? coordinate(pair.place, what) : NO_SUCH;
    }

    public long apart(int set, int other, int what) {
        if (!cloud.hasSet(set) || !cloud.hasSet(other)) {
            return NO_SUCH;
        }
        pair.take(cloud, set, other);
        if (pair.find() || !pair.measureGap()) {
            return NO_SUCH;
        }
        switch (what) {
            case 0: return pair.gapSquare;
            case 1: return pair.gapLower;
            case 2: return pair.gapX;
            case 3: return pair.gapY;
            case 4: return pair.second.leastAlong(pair.gapX, pair.gapY);
            default: return NO_SUCH;
        }
    }

    public int partings(int set, int r, int what) {
        if (!divider.begin(cloud, set, r)) {
            return UNKNOWN;
        }
        switch (what) {
            case 0: return divider.countMet(cloud, pair);
            case 1: return divider.countAll();
            default: return UNKNOWN;
        }
    }

    public int part(int set, int r, int k, int part) {
        if (k < 0 || !divider.begin(cloud, set, r) || part < 0 || part >= r) {
            return UNKNOWN;
        }
        return divider.seekMet(cloud, pair, k) ? divider.bitsOf(part) : NONE;
    }

    public long met(int set, int r, int k, int what) {
        if (k < 0 || !divider.begin(cloud, set, r) || !divider.seekMet(cloud, pair, k)) {
            return NO_SUCH;
        }
        return coordinate(pair.place, what);
    }

    // ---- how deep a place lies ----

    public int depth(int x, int y) {
        return isPlace(x, y) ? depths.depthAt(cloud, x, y, NONE) : UNKNOWN;
    }

    public int triangles(int x, int y, int what) {
        if (!isPlace(x, y)) {
            return UNKNOWN;
        }
        switch (what) {
            case 0: return countTriangles(cloud, x, y);
            case 1: return chooser.countHolding(cloud, x, y);
            default: return UNKNOWN;
        }
    }

    public long deepest(int what) {
        if (cloud.size == 0 || what < 0 || what > 2) {
            return NO_SUCH;
        }
        depths.findDeepest(cloud);
        switch (what) {
            case 0: return depths.bestX;
            case 1: return depths.bestY;
            default: return depths.best;
        }
    }

    public int frees(int what) {
        depths.findFewest(cloud);
        switch (what) {
            case 0: return Integer.bitCount(depths.fewest);
            case 1: return depths.fewest;
            default: return UNKNOWN;
        }
    }

    // ---- points that come, go, move, are painted ----

    public int adds(int x, int y, int colour) {
        if (!isPlace(x, y) || !isColour(colour)) {
            return UNKNOWN;
        }
        return cloud.append(x, y, colour) ? cloud.size - 1 : TOO_MANY;
    }

    public int removes(int point) {
        if (!cloud.has(point)) {
            return UNKNOWN;
        }
        cloud.drop(point);
        return cloud.size;
    }

    public int moves(int point, int x, int y) {
        if (!cloud.has(point) || !isPlace(x, y)) {
            return UNKNOWN;
        }
        boolean same = cloud.isAt(point, x, y);
        cloud.x[point] = x;
        cloud.y[point] = y;
        return same ? 0 : 1;
    }

    public int paints(int point, int colour) {
        if (!cloud.has(point) || !isColour(colour)) {
            return UNKNOWN;
        }
        int before = cloud.colour[point];
        cloud.colour[point] = colour;
        return before;
    }

    public int loads(int point, int load) {
        if (!cloud.has(point) || load < 0 || load > HIGHEST_LOAD) {
            return UNKNOWN;
        }
        int before = cloud.load[point];
        cloud.load[point] = load;
        return before;
    }

    public int centres(int x, int y) {
        if (!isPlace(x, y)) {
            return UNKNOWN;
        }
        boolean same = cloud.centreX == x && cloud.centreY == y;
        cloud.centreX = x;
        cloud.centreY = y;
        return same ? 0 : 1;
    }

    // ---- what all of them need ----

    private static boolean isPlace(int x, int y) {
        return x >= -FARTHEST && x <= FARTHEST && y >= -FARTHEST && y <= FARTHEST;
    }

    private static boolean isColour(int colour) {
        return colour >= 0 && colour < COLOURS;
    }

    private static boolean isIn(int set, int point) {
        return (set >> point & 1) != 0;
    }

    /** The counter is there for its end alone: no two longs need a hundred rounds. */
    private static long gcd(long a, long b) {
        long high = Math.abs(a);
        long low = Math.abs(b);
        for (int i = 0; i < 100 && low != 0; i++) {
            long rest = high % low;
            high = low;
            low = rest;
        }
        return high;
    }

    private static long cross(long ax, long ay, long bx, long by) {
        return ax * by - ay * bx;
    }

    private static long coordinate(Place place, long what) {
        if (what == 0) {
            return place.x;
        }
        if (what == 1) {
            return place.y;
        }
        return what == 2 ? place.lower : NO_SUCH;
    }

    private static boolean triangleHolds(Cloud cloud, int a, int b, int c, int x, int y) {
        int ax = cloud.x[a] - x;
        int ay = cloud.y[a] - y;
        int bx = cloud.x[b] - x;
        int by = cloud.y[b] - y;
        int cx = cloud.x[c] - x;
        int cy = cloud.y[c] - y;
        int ab = ax * by - ay * bx;
        int bc = bx * cy - by * cx;
        int ca = cx * ay - cy * ax;
        if (ab == 0 && bc == 0 && ca == 0) {
            // All on one line with the place: two are seen from it in opposite directions, or one is there.
            return ax * bx + ay * by <= 0 || bx * cx + by * cy <= 0 || cx * ax + cy * ay <= 0;
        }
        return ab >= 0 && bc >= 0 && ca >= 0 || ab <= 0 && bc <= 0 && ca <= 0;
    }

    private static int countTriangles(Cloud cloud, int x, int y) {
        int found = 0;
        for (int a = 0; a < cloud.size; a++) {
            for (int b = a + 1; b < cloud.size; b++) {
                for (int c = b + 1; c < cloud.size; c++) {
                    if (triangleHolds(cloud, a, b, c, x, y)) {
                        found++;
                    }
                }
            }
        }
        return found;
    }

    /** The points and the centre, as they stand. */
    private static final class Cloud {
        final int[] x = new int[MOST_POINTS];
        final int[] y = new int[MOST_POINTS];
        final int[] colour = new int[MOST_POINTS];
        final int[] load = new int[MOST_POINTS];
        int size;
        int centreX;
        int centreY;

        boolean has(int point) {
            return point >= 0 && point < size;
        }

        boolean hasSet(int set) {
            return set > 0 && set >>> size == 0;
        }

        boolean isAt(int point, int px, int py) {
            return x[point] == px && y[point] == py;
        }

        boolean isRainbow(int red, int green, int blue) {
            return has(red) && colour[red] == 0
                && has(green) && colour[green] == 1
                && has(blue) && colour[blue] == 2;
        }

        int bitsOfColour(int wanted) {
            int bits = 0;
            for (int point = 0; point < size; point++) {
                if (colour[point] == wanted) {
                    bits |= 1 << point;
                }
            }
            return bits;
        }

        int bitsLoaded() {
            int bits = 0;
            for (int point = 0; point < size; point++) {
                if (load[point] > 0) {
                    bits |= 1 << point;
                }
            }
            return bits;
        }

        boolean locateBalance(Place place) {
            long sumX = 0;
            long sumY = 0;
            long sum = 0;
            for (int point = 0; point < size; point++) {
                sumX += load[point] * x[point];
                sumY += load[point] * y[point];
                sum += load[point];
            }
            place.put(sumX, sumY, sum);
            return sum != 0;
        }

        boolean append(int px, int py, int ink) {
            if (size >= MOST_POINTS) {
                return false;
            }
            x[size] = px;
            y[size] = py;
            colour[size] = ink;
            load[size] = 0;
            size++;
            return true;
        }

        void drop(int point) {
            for (int i = point; i < size - 1; i++) {
                x[i] = x[i + 1];
                y[i] = y[i + 1];
                colour[i] = colour[i + 1];
                load[i] = load[i + 1];
            }
            size--;
        }

        void clear() {
            size = 0;
            centreX = 0;
            centreY = 0;
        }

        void copyFrom(Cloud other) {
            for (int i = 0; i < other.size; i++) {
                x[i] = other.x[i];
                y[i] = other.y[i];
                colour[i] = other.colour[i];
                load[i] = other.load[i];
            }
            size = other.size;
            centreX = other.centreX;
            centreY = other.centreY;
        }
    }

    /** The tape; reads it into a draft, so that a fault leaves all else as it was. */
    private static final class Reader {
        private static final int WORD = 1;
        private static final int NUMBER = 2;
        private static final int SEMICOLON = 3;
        private static final int COMMA = 4;
        private static final int MINUS = 5;
        private static final int STRANGE = 6;
        private static final int END = 7;
        private static final int BEYOND_ALL = 1000;

        final byte[] tape = new byte[MOST_BYTES];
        final Cloud draft = new Cloud();
        int length;
        int faultKind;
        int faultPlace = NONE;
        private boolean centreTold;
        private int start;
        private int next;
        private int kind;
        private int value;

        boolean hasRoom(int bytes) {
            return length + bytes <= tape.length;
        }

        void append(int four) {
            for (int shift = 24; shift >= 0 && length < tape.length; shift -= 8) {
                tape[length] = (byte) (four >> shift);
                length++;
            }
        }

        boolean readText() {
            draft.clear();
            centreTold = false;
            faultKind = 0;
            faultPlace = NONE;
            next = 0;
            advance();
            for (int i = 0; i <= MOST_BYTES && kind != END && faultKind == 0; i++) {
                if (spells("centre")) {
                    readCentre();
                } else {
                    readPoints(colourTold());
                }
                skip(SEMICOLON);
            }
            return faultKind == 0;
        }

        private int colourTold() {
            if (spells("red")) {
                return 0;
            }
            if (spells("green")) {
                return 1;
            }
            return spells("blue") ? 2 : NONE;
        }

        private void readCentre() {
            if (centreTold) {
                refuse(3);
                return;
            }
            centreTold = true;
            advance();
            draft.centreX = readCoordinate();
            draft.centreY = readCoordinate();
        }

        private void readPoints(int ink) {
            if (ink == NONE) {
                refuse(1);
                return;
            }
            int first = draft.size;
            boolean more = true;
            for (int i = 0; i <= MOST_BYTES && more; i++) {
                // Past the colour, past a comma.
                advance();
                refuseBeyondLast();
                int x = readCoordinate();
                int y = readCoordinate();
                more = faultKind == 0 && draft.append(x, y, ink) && kind == COMMA;
            }
            if (faultKind == 0 && spells("load")) {
                advance();
                int load = readNumber(HIGHEST_LOAD);
                for (int point = first; point < draft.size; point++) {
                    draft.load[point] = load;
                }
            }
        }

        /** A token that is wrong in itself has the lesser fault at the same place: that is left to its reader. */
        private void refuseBeyondLast() {
            boolean fine = kind == MINUS || kind == NUMBER && value <= FARTHEST;
            if (draft.size >= MOST_POINTS && fine) {
                refuse(3);
            }
        }

        private int readCoordinate() {
            boolean below = kind == MINUS && faultKind == 0;
            if (below) {
                advance();
            }
            int size = readNumber(FARTHEST);
            return below ? -size : size;
        }

        private int readNumber(int most) {
            if (kind != NUMBER) {
                refuse(1);
            } else if (value > most) {
                refuse(2);
            }
            if (faultKind != 0) {
                return 0;
            }
            int number = value;
            advance();
            return number;
        }

        private void skip(int wanted) {
            if (kind != wanted) {
                refuse(1);
            }
            if (faultKind == 0) {
                advance();
            }
        }

        /** Tokens are read in their order, and none behind a fault: so the first one stays. */
        private void refuse(int fault) {
            if (faultKind == 0) {
                faultKind = fault;
                faultPlace = start;
            }
        }

        private void advance() {
            while (next < length && (tape[next] == ' ' || tape[next] == '\n')) {
                next++;
            }
            start = next;
            if (start >= length) {
                kind = END;
            } else if (isLetter(tape[start])) {
                while (next < length && isLetter(tape[next])) {
                    next++;
                }
                kind = WORD;
            } else if (isDigit(tape[start])) {
                value = 0;
                while (next < length && isDigit(tape[next])) {
                    value = Math.min(value * 10 + tape[next] - '0', BEYOND_ALL);
                    next++;
                }
                kind = NUMBER;
            } else {
                kind = signKind(tape[start]);
                next++;
            }
        }

        private boolean spells(String word) {
            if (kind != WORD || next - start != word.length() || next > length) {
                return false;
            }
            for (int i = 0; i < word.length(); i++) {
                if (tape[start + i] != word.charAt(i)) {
                    return false;
                }
            }
            return true;
        }

        private static int signKind(int sign) {
            switch (sign) {
                case ';': return SEMICOLON;
                case ',': return COMMA;
                case '-': return MINUS;
                default: return STRANGE;
            }
        }

        private static boolean isLetter(int sign) {
            return sign >= 'a' && sign <= 'z';
        }

        private static boolean isDigit(int sign) {
            return sign >= '0' && sign <= '9';
        }
    }

    /** A place: x and y by one lower number, in lowest terms. */
    private static final class Place {
        long x;
        long y;
        long lower = 1;

        void put(long px, long py, long by) {
            long common = gcd(gcd(px, py), by);
            if (by == 0 || common == 0) {
                return;
            }
            if (by < 0) {
                common = -common;
            }
            x = px / common;
            y = py / common;
            lower = by / common;
        }
    }

    /** The corners of a set of points, counterclockwise; behind the last one the first one's place stands once more. */
    private static final class Hull {
        final int[] chain = new int[2 * MOST_POINTS];
        final int[] x = new int[2 * MOST_POINTS];
        final int[] y = new int[2 * MOST_POINTS];
        private final int[] sorted = new int[MOST_POINTS];
        int size;

        void build(Cloud cloud, int set) {
            int found = 0;
            for (int point = 0; point < cloud.size; point++) {
                if (isIn(set, point)) {
                    found = insert(cloud, point, found);
                }
            }
            size = 0;
            for (int i = 0; i < found; i++) {
                push(cloud, sorted[i], 2);
            }
            int kept = size + 1;
            for (int i = found - 2; i >= 0; i--) {
                push(cloud, sorted[i], kept);
            }
            if (found > 1) {
                // The way round has ended at the first corner.
                size--;
            }
            x[size] = x[0];
            y[size] = y[0];
        }

        /** Of several points at one place the first stays: they come by number. */
        private int insert(Cloud cloud, int point, int found) {
            int px = cloud.x[point];
            int py = cloud.y[point];
            int at = found;
            while (at > 0 && isBefore(px, py, cloud.x[sorted[at - 1]], cloud.y[sorted[at - 1]])) {
                at--;
            }
            if (at > 0 && cloud.isAt(sorted[at - 1], px, py) || found >= sorted.length) {
                return found;
            }
            for (int i = found; i > at; i--) {
                sorted[i] = sorted[i - 1];
            }
            sorted[at] = point;
            return found + 1;
        }

        private static boolean isBefore(int ax, int ay, int bx, int by) {
            return ax < bx || ax == bx && ay < by;
        }

        private void push(Cloud cloud, int point, int kept) {
            int px = cloud.x[point];
            int py = cloud.y[point];
            while (size >= kept && size >= 2 && !turnsLeft(px, py)) {
                size--;
            }
            if (size < chain.length) {
                chain[size] = point;
                x[size] = px;
                y[size] = py;
                size++;
            }
        }

        private boolean turnsLeft(int px, int py) {
            int ax = x[size - 2];
            int ay = y[size - 2];
            return (x[size - 1] - ax) * (py - ay) - (y[size - 1] - ay) * (px - ax) > 0;
        }

        int doubleArea() {
            int sum = 0;
            for (int i = 0; i < size; i++) {
                sum += x[i] * y[i + 1] - y[i] * x[i + 1];
            }
            return sum;
        }

        /** Pick's count; without an area the rim is gone there and back, and it holds, too. */
        int wholePlaces() {
            int rim = 0;
            for (int i = 0; i < size; i++) {
                rim += (int) gcd(x[i + 1] - x[i], y[i + 1] - y[i]);
            }
            return (doubleArea() + rim) / 2 + 1;
        }

        /** 2 inside, 1 on the rim, 0 outside, of the place px, py by a lower number above 0. */
        int sideOf(long px, long py, long lower) {
            if (size < 1) {
                return 0;
            }
            boolean onRim = false;
            for (int i = 0; i < size; i++) {
                long turn = (x[i + 1] - x[i]) * (py - y[i] * lower) - (y[i + 1] - y[i]) * (px - x[i] * lower);
                if (turn < 0) {
                    return 0;
                }
                onRim = onRim || turn == 0;
            }
            if (size >= 3) {
                return onRim ? 1 : 2;
            }
            // On the line of its ends: they are seen from it in opposite directions, or it is there.
            long x0 = x[0] * lower - px;
            long y0 = y[0] * lower - py;
            long x1 = x[size - 1] * lower - px;
            long y1 = y[size - 1] * lower - py;
            return x0 * x1 + y0 * y1 <= 0 ? 1 : 0;
        }

        long leastAlong(long a, long b) {
            long least = a * x[0] + b * y[0];
            for (int i = 1; i < size; i++) {
                least = Math.min(least, a * x[i] + b * y[i]);
            }
            return least;
        }
    }

    /** The nearest of all places that were offered, seen from one place. */
    private static final class Near {
        long x;
        long y;
        long lower = 1;
        long square;
        long squareLower = 1;
        private int fromX;
        private int fromY;

        void start(int px, int py) {
            fromX = px;
            fromY = py;
            square = 0;
            squareLower = 0;
        }

        void findOnHull(Hull hull, int px, int py) {
            start(px, py);
            if (hull.sideOf(px, py, 1) > 0) {
                offer(px, py, 1);
                return;
            }
            for (int i = 0; i < hull.size; i++) {
                offerEdge(hull.x[i], hull.y[i], hull.x[i + 1], hull.y[i + 1]);
            }
        }

        /** True if its nearest place is nearer than all that were offered before. */
        boolean offerEdge(int ax, int ay, int bx, int by) {
            long edgeX = bx - ax;
            long edgeY = by - ay;
            long full = edgeX * edgeX + edgeY * edgeY;
            long along = edgeX * (fromX - ax) + edgeY * (fromY - ay);
            if (along <= 0) {
                return offer(ax, ay, 1);
            }
            if (along >= full) {
                return offer(bx, by, 1);
            }
            return offer(ax * full + along * edgeX, ay * full + along * edgeY, full);
        }

        /** Lower numbers are 3200 at most, so no product here leaves a long, lowest terms or not. */
        boolean offer(long px, long py, long by) {
            long dx = px - fromX * by;
            long dy = py - fromY * by;
            long up = dx * dx + dy * dy;
            if (squareLower != 0 && up * squareLower >= square * by * by) {
                return false;
            }
            x = px;
            y = py;
            lower = by;
            square = up;
            squareLower = by * by;
            return true;
        }

        void bringToLowestTerms() {
            long common = gcd(gcd(x, y), lower);
            if (common != 0) {
                x /= common;
                y /= common;
                lower /= common;
            }
            common = gcd(square, squareLower);
            if (common != 0) {
                square /= common;
                squareLower /= common;
            }
        }

        boolean isAt(int px, int py) {
            return px * lower == x && py * lower == y;
        }

        /** The way to it, times its lower number. */
        long wayX() {
            return x - fromX * lower;
        }

        long wayY() {
            return y - fromY * lower;
        }
    }

    /** The first tie of a set: its members by number, the last being the mixture of the others. */
    private static final class Tie {
        private static final int MOST_TIED = 4;

        final int[] member = new int[MOST_TIED];
        final long[] factor = new long[MOST_TIED];
        int size;

        boolean find(Cloud cloud, int set) {
            size = 0;
            for (int point = 0; point < cloud.size; point++) {
                if (!isIn(set, point)) {
                    continue;
                }
                if (size >= MOST_TIED) {
                    return false;
                }
                member[size] = point;
                size++;
                if (bind(cloud)) {
                    settle();
                    return true;
                }
            }
            return false;
        }

        private boolean bind(Cloud cloud) {
            switch (size) {
                case 2: return bindTwo(cloud);
                case 3: return bindThree(cloud);
                case 4: return bindFour(cloud);
                default: return false;
            }
        }

        private boolean bindTwo(Cloud cloud) {
            factor[0] = -1;
            factor[1] = 1;
            return cloud.isAt(member[0], cloud.x[member[1]], cloud.y[member[1]]);
        }

        private boolean bindThree(Cloud cloud) {
            long wayX = cloud.x[member[1]] - cloud.x[member[0]];
            long wayY = cloud.y[member[1]] - cloud.y[member[0]];
            long toX = cloud.x[member[2]] - cloud.x[member[0]];
            long toY = cloud.y[member[2]] - cloud.y[member[0]];
            long full = wayX * wayX + wayY * wayY;
            long along = wayX * toX + wayY * toY;
            factor[0] = along - full;
            factor[1] = -along;
            factor[2] = full;
            return cross(wayX, wayY, toX, toY) == 0;
        }

        private boolean bindFour(Cloud cloud) {
            long ax = cloud.x[member[0]] - cloud.x[member[3]];
            long ay = cloud.y[member[0]] - cloud.y[member[3]];
            long bx = cloud.x[member[1]] - cloud.x[member[3]];
            long by = cloud.y[member[1]] - cloud.y[member[3]];
            long cx = cloud.x[member[2]] - cloud.x[member[3]];
            long cy = cloud.y[member[2]] - cloud.y[member[3]];
            factor[0] = -cross(bx, by, cx, cy);
            factor[1] = -cross(cx, cy, ax, ay);
            factor[2] = -cross(ax, ay, bx, by);
            factor[3] = -(factor[0] + factor[1] + factor[2]);
            return true;
        }

        /** Brings the factors to lowest terms, that of the last member above 0. */
        private void settle() {
            long common = 0;
            for (int i = 0; i < size; i++) {
                common = gcd(common, factor[i]);
            }
            if (common == 0) {
                return;
            }
            if (factor[size - 1] < 0) {
                common = -common;
            }
            for (int i = 0; i < size; i++) {
                factor[i] /= common;
            }
        }

        long factorOf(int point) {
            for (int i = 0; i < size; i++) {
                if (member[i] == point) {
                    return factor[i];
                }
            }
            return 0;
        }

        int bitsAbove() {
            int bits = 0;
            for (int i = 0; i < size; i++) {
                bits |= factor[i] > 0 ? 1 << member[i] : 0;
            }
            return bits;
        }

        int bitsBelow() {
            int bits = 0;
            for (int i = 0; i < size; i++) {
                bits |= factor[i] < 0 ? 1 << member[i] : 0;
            }
            return bits;
        }

        void locate(Cloud cloud, Place place) {
            long sumX = 0;
            long sumY = 0;
            long sum = 0;
            for (int i = 0; i < size; i++) {
                if (factor[i] > 0) {
                    sumX += factor[i] * cloud.x[member[i]];
                    sumY += factor[i] * cloud.y[member[i]];
                    sum += factor[i];
                }
            }
            place.put(sumX, sumY, sum);
        }
    }

    /**
     * Weights by one lower number, brought on fewer points tie by tie. The lower number is at most
     * 594 times 1600 for each of five steps at most, so a long has room for it.
     */
    private static final class Reducer {
        final long[] up = new long[MOST_POINTS];
        long lower = 1;
        int alive;
        private final Tie tied = new Tie();

        /** 0, or why there is nothing to reduce. */
        int begin(Cloud cloud) {
            alive = cloud.bitsLoaded();
            if (alive == 0) {
                return UNKNOWN;
            }
            if (Integer.bitCount(alive) > MOST_LOADED) {
                return TOO_MANY;
            }
            lower = 0;
            for (int point = 0; point < cloud.size; point++) {
                up[point] = cloud.load[point];
                lower += cloud.load[point];
            }
            return 0;
        }

        /** Makes so many steps, or all that there are: how many it made. */
        int run(Cloud cloud, int most) {
            int made = 0;
            while (made < most && made < MOST_LOADED && tied.find(cloud, alive)) {
                step(cloud.size, tightest());
                made++;
            }
            return made;
        }

        /** Of the members with a factor above 0 that whose weight is used up first. */
        private int tightest() {
            int best = tied.size - 1;
            for (int i = 0; i < tied.size; i++) {
                if (tied.factor[i] > 0
                    && up[tied.member[i]] * tied.factor[best] < up[tied.member[best]] * tied.factor[i]) {
                    best = i;
                }
            }
            return best;
        }

        private void step(int points, int best) {
            if (best < 0) {
                return;
            }
            long scale = tied.factor[best];
            long taken = up[tied.member[best]];
            lower *= scale;
            long common = lower;
            for (int point = 0; point < points; point++) {
                up[point] = up[point] * scale - taken * tied.factorOf(point);
                common = gcd(common, up[point]);
            }
            if (common == 0) {
                return;
            }
            lower /= common;
            for (int point = 0; point < points; point++) {
                up[point] /= common;
                if (up[point] == 0) {
                    alive &= ~(1 << point);
                }
            }
        }
    }

    /** One point of each colour, and how it comes nearer to the centre. */
    private static final class Rainbows {
        /** Eight of each colour are the most; no rainbow comes twice on one way. */
        static final int MOST_RAINBOWS = 512;

        final int[] chosen = new int[COLOURS];
        final long[] mixed = new long[COLOURS + 1];
        final Near near = new Near();
        int gone;
        int stuck;
        int longest;
        private int side;

        void choose(int red, int green, int blue) {
            chosen[0] = red;
            chosen[1] = green;
            chosen[2] = blue;
        }

        private static int following(Cloud cloud, int colour, int point) {
            int next = point + 1;
            while (next < cloud.size && cloud.colour[next] != colour) {
                next++;
            }
            return next;
        }

        private boolean chooseFirst(Cloud cloud) {
            for (int colour = 0; colour < COLOURS; colour++) {
                chosen[colour] = following(cloud, colour, NONE);
                if (chosen[colour] >= cloud.size) {
                    return false;
                }
            }
            return true;
        }

        private boolean chooseNext(Cloud cloud) {
            for (int colour = COLOURS - 1; colour >= 0; colour--) {
                chosen[colour] = following(cloud, colour, chosen[colour]);
                if (chosen[colour] < cloud.size) {
                    return true;
                }
                chosen[colour] = following(cloud, colour, NONE);
            }
            return false;
        }

        private boolean chosenHold(Cloud cloud, int x, int y) {
            return triangleHolds(cloud, chosen[0], chosen[1], chosen[2], x, y);
        }

        int countHolding(Cloud cloud, int x, int y) {
            int found = 0;
            boolean more = chooseFirst(cloud);
            for (int i = 0; i < MOST_RAINBOWS && more; i++) {
                if (chosenHold(cloud, x, y)) {
                    found++;
                }
                more = chooseNext(cloud);
            }
            return found;
        }

        boolean seekHolding(Cloud cloud, int k) {
            int found = 0;
            boolean more = chooseFirst(cloud);
            for (int i = 0; i < MOST_RAINBOWS && more; i++) {
                if (chosenHold(cloud, cloud.centreX, cloud.centreY)) {
                    if (found == k) {
                        return true;
                    }
                    found++;
                }
                more = chooseNext(cloud);
            }
            return false;
        }

        /** The nearest place; its side is the first of red green, red blue, green blue that has it. */
        void look(Cloud cloud) {
            near.start(cloud.centreX, cloud.centreY);
            if (chosenHold(cloud, cloud.centreX, cloud.centreY)) {
                near.offer(cloud.centreX, cloud.centreY, 1);
                return;
            }
            side = 0;
            for (int first = 0; first < COLOURS; first++) {
                for (int second = first + 1; second < COLOURS; second++) {
                    int a = chosen[first];
                    int b = chosen[second];
                    if (near.offerEdge(cloud.x[a], cloud.y[a], cloud.x[b], cloud.y[b])) {
                        side = first + second - 1;
                    }
                }
            }
        }

        /** Exchanges so often, or till it holds the centre or is stuck: how often. */
        int run(Cloud cloud, int most) {
            gone = NONE;
            int made = 0;
            while (made < most && made < MOST_RAINBOWS && exchange(cloud)) {
                made++;
            }
            return made;
        }

        private boolean exchange(Cloud cloud) {
            look(cloud);
            if (near.square == 0) {
                return false;
            }
            int goes = colourThatGoes(cloud);
            long wayX = near.wayX();
            long wayY = near.wayY();
            int best = NONE;
            long least = 0;
            for (int point = 0; point < cloud.size; point++) {
                long product = (cloud.x[point] - cloud.centreX) * wayX + (cloud.y[point] - cloud.centreY) * wayY;
                if (cloud.colour[point] == goes && (best == NONE || product < least)) {
                    best = point;
                    least = product;
                }
            }
            // Both sides by the square of the nearest place's lower number, which the way is times already.
            if (best == NONE || least * near.lower >= wayX * wayX + wayY * wayY) {
                return false;
            }
            chosen[goes] = best;
            gone = goes;
            return true;
        }

        private int colourThatGoes(Cloud cloud) {
            for (int colour = 0; colour < COLOURS; colour++) {
                if (near.isAt(cloud.x[chosen[colour]], cloud.y[chosen[colour]])) {
                    return colour == 0 ? 1 : 0;
                }
            }
            return COLOURS - 1 - side;
        }

        void runAll(Cloud cloud) {
            stuck = 0;
            longest = 0;
            boolean more = chooseFirst(cloud);
            for (int i = 0; i < MOST_RAINBOWS && more; i++) {
                int red = chosen[0];
                int green = chosen[1];
                int blue = chosen[2];
                longest = Math.max(longest, run(cloud, MOST_RAINBOWS));
                if (near.square != 0) {
                    stuck++;
                }
                choose(red, green, blue);
                more = chooseNext(cloud);
            }
        }

        /** The weights by which the chosen ones balance at the centre; false if they do not hold it. */
        boolean mix(Cloud cloud) {
            for (int i = 0; i <= COLOURS; i++) {
                mixed[i] = 0;
            }
            if (!chosenHold(cloud, cloud.centreX, cloud.centreY)) {
                return false;
            }
            if (!mixOne(cloud) && !mixTwo(cloud)) {
                mixThree(cloud);
            }
            long common = 0;
            for (int i = 0; i <= COLOURS; i++) {
                common = gcd(common, mixed[i]);
            }
            if (common == 0) {
                return false;
            }
            if (mixed[COLOURS] < 0) {
                common = -common;
            }
            for (int i = 0; i <= COLOURS; i++) {
                mixed[i] /= common;
            }
            return true;
        }

        private boolean mixOne(Cloud cloud) {
            for (int colour = 0; colour < COLOURS; colour++) {
                if (cloud.isAt(chosen[colour], cloud.centreX, cloud.centreY)) {
                    mixed[colour] = 1;
                    mixed[COLOURS] = 1;
                    return true;
                }
            }
            return false;
        }

        private boolean mixTwo(Cloud cloud) {
            for (int first = 0; first < COLOURS; first++) {
                for (int second = first + 1; second < COLOURS; second++) {
                    if (mixPair(cloud, first, second)) {
                        return true;
                    }
                }
            }
            return false;
        }

        /** Neither is at the centre: it lies between them if they are seen in opposite directions. */
        private boolean mixPair(Cloud cloud, int first, int second) {
            long ax = cloud.x[chosen[first]] - cloud.centreX;
            long ay = cloud.y[chosen[first]] - cloud.centreY;
            long bx = cloud.x[chosen[second]] - cloud.centreX;
            long by = cloud.y[chosen[second]] - cloud.centreY;
            if (cross(ax, ay, bx, by) != 0 || ax * bx + ay * by >= 0) {
                return false;
            }
            mixed[first] = Math.abs(bx) + Math.abs(by);
            mixed[second] = Math.abs(ax) + Math.abs(ay);
            mixed[COLOURS] = mixed[first] + mixed[second];
            return true;
        }

        private void mixThree(Cloud cloud) {
            long rx = cloud.x[chosen[0]] - cloud.centreX;
            long ry = cloud.y[chosen[0]] - cloud.centreY;
            long gx = cloud.x[chosen[1]] - cloud.centreX;
            long gy = cloud.y[chosen[1]] - cloud.centreY;
            long bx = cloud.x[chosen[2]] - cloud.centreX;
            long by = cloud.y[chosen[2]] - cloud.centreY;
            mixed[0] = cross(gx, gy, bx, by);
            mixed[1] = cross(bx, by, rx, ry);
            mixed[2] = cross(rx, ry, gx, gy);
            mixed[COLOURS] = mixed[0] + mixed[1] + mixed[2];
        }
    }

    /** Two hulls or three: the least place that they have in common, or the way from the first to the second. */
    private static final class Meeting {
        final Hull first = new Hull();
        final Hull second = new Hull();
        final Hull third = new Hull();
        final Place place = new Place();
        long gapSquare;
        long gapLower;
        long gapX;
        long gapY;
        private final Near near = new Near();
        private boolean threefold;
        private long leastX;
        private long leastY;
        private long leastLower;

        void take(Cloud cloud, int set, int other) {
            first.build(cloud, set);
            second.build(cloud, other);
            threefold = false;
        }

        void takeThird(Cloud cloud, int set) {
            third.build(cloud, set);
            threefold = true;
        }

        /** The least place is a corner of one hull or a crossing of two rims. */
        boolean find() {
            leastLower = 0;
            offerCorners(first);
            offerCorners(second);
            offerCrossings(first, second);
            if (threefold) {
                offerCorners(third);
                offerCrossings(first, third);
                offerCrossings(second, third);
            }
            place.put(leastX, leastY, leastLower);
            return leastLower != 0;
        }

        private void offerCorners(Hull hull) {
            for (int i = 0; i < hull.size; i++) {
                offer(hull.x[i], hull.y[i], 1);
            }
        }

        private void offerCrossings(Hull one, Hull two) {
            for (int i = 0; i < one.size; i++) {
                for (int j = 0; j < two.size; j++) {
                    long ux = one.x[i + 1] - one.x[i];
                    long uy = one.y[i + 1] - one.y[i];
                    long vx = two.x[j + 1] - two.x[j];
                    long vy = two.y[j + 1] - two.y[j];
                    long lower = ux * vy - uy * vx;
                    long along = (two.x[j] - one.x[i]) * vy - (two.y[j] - one.y[i]) * vx;
                    if (lower < 0) {
                        lower = -lower;
                        along = -along;
                    }
                    if (lower > 0 && along >= 0 && along <= lower) {
                        offer(one.x[i] * lower + along * ux, one.y[i] * lower + along * uy, lower);
                    }
                }
            }
        }

        private void offer(long x, long y, long lower) {
            if (leastLower != 0) {
                long more = x * leastLower - leastX * lower;
                if (more > 0 || more == 0 && y * leastLower >= leastY * lower) {
                    return;
                }
            }
            if (first.sideOf(x, y, lower) > 0 && second.sideOf(x, y, lower) > 0
                && (!threefold || third.sideOf(x, y, lower) > 0)) {
                leastX = x;
                leastY = y;
                leastLower = lower;
            }
        }

        /** Of two hulls that do not meet; one end of the shortest way is a corner. */
        boolean measureGap() {
            gapSquare = 0;
            gapLower = 0;
            for (int i = 0; i < second.size; i++) {
                near.findOnHull(first, second.x[i], second.y[i]);
                offerGap(-1);
            }
            for (int i = 0; i < first.size; i++) {
                near.findOnHull(second, first.x[i], first.y[i]);
                offerGap(1);
            }
            long common = gcd(gapX, gapY);
            long squareCommon = gcd(gapSquare, gapLower);
            if (common == 0 || squareCommon == 0) {
                return false;
            }
            gapX /= common;
            gapY /= common;
            gapSquare /= squareCommon;
            gapLower /= squareCommon;
            return true;
        }

        private void offerGap(int sign) {
            if (gapLower == 0 || near.square * gapLower < gapSquare * near.squareLower) {
                gapSquare = near.square;
                gapLower = near.squareLower;
                gapX = sign * near.wayX();
                gapY = sign * near.wayY();
            }
        }
    }

    /** A set in two parts or three, row by row. */
    private static final class Partings {
        /** Three parts of seven points each have fewer rows. */
        private static final int MOST_ROWS = 2187;

        private final int[] member = new int[MOST_PARTED];
        private final int[] row = new int[MOST_PARTED];
        private int size;
        private int parts;

        /** False if there is no such set, or no such number of parts. */
        boolean begin(Cloud cloud, int set, int r) {
            if (!cloud.hasSet(set) || Integer.bitCount(set) > MOST_PARTED || r < 2 || r > 3) {
                return false;
            }
            parts = r;
            size = 0;
            for (int point = 0; point < cloud.size; point++) {
                if (isIn(set, point) && size < MOST_PARTED) {
                    member[size] = point;
                    row[size] = 0;
                    size++;
                }
            }
            return true;
        }

        private boolean nextRow() {
            for (int i = size - 1; i > 0; i--) {
                if (row[i] < parts - 1 && row[i] <= highestAhead(i)) {
                    row[i]++;
                    for (int j = i + 1; j < size; j++) {
                        row[j] = 0;
                    }
                    return true;
                }
            }
            return false;
        }

        private int highestAhead(int i) {
            int highest = 0;
            for (int j = 0; j < i; j++) {
                highest = Math.max(highest, row[j]);
            }
            return highest;
        }

        private boolean isFull() {
            return highestAhead(size) == parts - 1;
        }

        int countAll() {
            int found = 0;
            for (int i = 0; i < MOST_ROWS && nextRow(); i++) {
                if (isFull()) {
                    found++;
                }
            }
            return found;
        }

        int countMet(Cloud cloud, Meeting meeting) {
            int found = 0;
            for (int i = 0; i < MOST_ROWS && nextRow(); i++) {
                if (isFull() && meets(cloud, meeting)) {
                    found++;
                }
            }
            return found;
        }

        boolean seekMet(Cloud cloud, Meeting meeting, int k) {
            int found = 0;
            for (int i = 0; i < MOST_ROWS && nextRow(); i++) {
                if (isFull() && meets(cloud, meeting)) {
                    if (found == k) {
                        return true;
                    }
                    found++;
                }
            }
            return false;
        }

        private boolean meets(Cloud cloud, Meeting meeting) {
            meeting.take(cloud, bitsOf(0), bitsOf(1));
            if (parts == 3) {
                meeting.takeThird(cloud, bitsOf(2));
            }
            return meeting.find();
        }

        int bitsOf(int part) {
            int bits = 0;
            for (int i = 0; i < size; i++) {
                if (row[i] == part) {
                    bits |= 1 << member[i];
                }
            }
            return bits;
        }
    }

    /** How deep places lie among all points. */
    private static final class Depths {
        int bestX;
        int bestY;
        int best;
        int fewest;
        private final int[] rowBound = new int[2 * FARTHEST + 1];
        private int here;
        private int onLeft;
        private int onRight;
        private int ahead;
        private int behind;

        /** Splits the points by the line from a place through a point. */
        private void split(Cloud cloud, int x, int y, int through) {
            int wayX = cloud.x[through] - x;
            int wayY = cloud.y[through] - y;
            here = 0;
            onLeft = 0;
            onRight = 0;
            ahead = 0;
            behind = 0;
            for (int point = 0; point < cloud.size; point++) {
                int dx = cloud.x[point] - x;
                int dy = cloud.y[point] - y;
                int turn = wayX * dy - wayY * dx;
                int along = wayX * dx + wayY * dy;
                int bit = 1 << point;
                if (turn > 0) {
                    onLeft |= bit;
                } else if (turn < 0) {
                    onRight |= bit;
                } else if (along > 0) {
                    ahead |= bit;
                } else if (along < 0) {
                    behind |= bit;
                } else {
                    here |= bit;
                }
            }
        }

        /**
         * A rim turned a little off a line through a point has those ahead on one side, those behind
         * on the other, and no half plane has fewer than all such. Ends early when the depth is known
         * to be not above what is enough.
         */
        int depthAt(Cloud cloud, int x, int y, int enough) {
            int depth = cloud.size;
            for (int point = 0; point < cloud.size && depth > enough; point++) {
                if (!cloud.isAt(point, x, y)) {
                    split(cloud, x, y, point);
                    int sides = Math.min(Integer.bitCount(onLeft), Integer.bitCount(onRight));
                    int ends = Math.min(Integer.bitCount(ahead), Integer.bitCount(behind));
                    depth = Math.min(depth, Integer.bitCount(here) + sides + ends);
                }
            }
            return depth;
        }

        /** A point's own place is 1 deep at least, so some place is above 0. */
        void findDeepest(Cloud cloud) {
            best = 0;
            for (int y = -FARTHEST; y <= FARTHEST; y++) {
                rowBound[y + FARTHEST] = boundOf(cloud.y, cloud.size, y);
            }
            for (int x = -FARTHEST; x <= FARTHEST; x++) {
                if (boundOf(cloud.x, cloud.size, x) > best) {
                    searchColumn(cloud, x);
                }
            }
        }

        private void searchColumn(Cloud cloud, int x) {
            for (int y = -FARTHEST; y <= FARTHEST; y++) {
                if (rowBound[y + FARTHEST] > best) {
                    int depth = depthAt(cloud, x, y, best);
                    if (depth > best) {
                        best = depth;
                        bestX = x;
                        bestY = y;
                    }
                }
            }
        }

        /** An upright or a level rim: no place on it lies deeper than either side of it has points. */
        private static int boundOf(int[] values, int size, int value) {
            int below = 0;
            int above = 0;
            for (int i = 0; i < size && i < values.length; i++) {
                below += values[i] <= value ? 1 : 0;
                above += values[i] >= value ? 1 : 0;
            }
            return Math.min(below, above);
        }

        /** A hull does not hold the centre if all of it is on one side: what goes is the other half plane. */
        void findFewest(Cloud cloud) {
            fewest = (1 << cloud.size) - 1;
            for (int point = 0; point < cloud.size; point++) {
                if (!cloud.isAt(point, cloud.centreX, cloud.centreY)) {
                    split(cloud, cloud.centreX, cloud.centreY, point);
                    offerFewest(here | onLeft | ahead);
                    offerFewest(here | onLeft | behind);
                    offerFewest(here | onRight | ahead);
                    offerFewest(here | onRight | behind);
                }
            }
        }

        private void offerFewest(int set) {
            int less = Integer.bitCount(set) - Integer.bitCount(fewest);
            if (less < 0 || less == 0 && set < fewest) {
                fewest = set;
            }
        }
    }
}
