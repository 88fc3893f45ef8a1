import java.util.List;

/** Edges of strokes, acts, shelves and rows, and of promises 36 to 45. */
final class ShelfEdges {
    private static final long[] NUMBERS = {0, 1, -1, 2, 127, 128, 129, -127, -128, -129, 255, 256, 257, -255, -256, 32767, 32768,
        32769, -32767, -32768, -32769, 65535, 65536, 65537, Edge.MAX, Edge.MAX + 1L, Edge.MAX + 2L, Edge.MIN, Edge.MIN - 1L,
        1L << 32, (1L << 32) + 1, (1L << 32) - 1, 1L << 63, Long.MAX_VALUE, Long.MIN_VALUE, Long.MIN_VALUE + 1, -(1L << 32)};

    private ShelfEdges() {
    }

    static void run() {
        constants();
        bodies();
        acts();
        traceKept();
        shelves();
        refusals();
        promisedBody();
        promisedAct();
        promisedTrace();
        promisedKeep();
        promisedRow();
        promisedPut();
        promisedElement();
        promisedShift();
        promisedTaken();
        promisedCount();
    }

    private static void constants() {
        Edge.says("public static final int BAD = -1, NOT = -2, FULL = -3, STATE = -5, VOID = -2000000000;");
        Edge.due("BAD", RungByHeart.BAD, -1);
        Edge.due("NOT", RungByHeart.NOT, -2);
        Edge.due("FULL", RungByHeart.FULL, -3);
        Edge.due("STATE", RungByHeart.STATE, -5);
        Edge.due("VOID", RungByHeart.VOID, -2000000000);
    }

    // ---- strokes

    private static void bodies() {
        Edge.says("STROKES' ways are kept by call as BODIES 0 .. 49, of KINDS: 0 STROKE; 1 HAT under STROKE; "
            + "2 KNEE under STROKE; 3 LYING under KNEE; 4 DOG under HAT; 5 SHAM under LYING; 6 DEAF under STROKE; "
            + "7 MOURNER under DOG.");
        RungByHeart x = Edge.fresh();
        for (int n = 0; n < 50; n++) {
            Edge.due("body", x.body(n % 8), n);
            Edge.due("bodies", x.count(3), n + 1);
        }
        for (int n = 0; n < 50; n++) {
            Edge.due("keep", x.keep(0, n), 1);
            Edge.due("its kind", x.taken(0, 0), n % 8);
            Edge.due("its number", x.act(n, 2, 0), Ways.act(n % 8, n, 2, 0));
        }
        Edge.due("a 51st", x.body(0), Edge.FULL);
        Edge.due("bodies", x.count(3), 50);
        Edge.due("keep the last", x.keep(0, 49), 1);
        Edge.due("no such body", x.keep(0, 50), Edge.BAD);
        Edge.due("no such body", x.act(50, 0, 0), 0);
    }

    private static void acts() {
        Edge.says("ACTS with x (an int that wraps): 0 rings, 1 hears, 2 does, 3 tells; n its number.");
        int[] xs = {0, 1, -1, 2, 5, 1 << 29, 1 << 30, -(1 << 30), Edge.MIN, Edge.MIN + 1, Edge.MIN + 2, Edge.MAX, Edge.MAX - 1,
            Edge.MAX - 49, 715827883, 1431655765};
        for (int kind = 0; kind < 8; kind++) {
            RungByHeart x = Edge.fresh();
            for (int n = 0; n < 50; n++) {
                x.body(kind);
            }
            int[] numbers = {0, 1, 7, 48, 49};
            for (int n : numbers) {
                for (int act = 0; act < 4; act++) {
                    for (int v : xs) {
                        Edge.due("kind " + kind + ", act(" + n + ", " + act + ", " + v + ")", x.act(n, act, v),
                            Ways.act(kind, n, act, v));
                    }
                }
            }
        }
    }

    private static void traceKept() {
        Edge.says("THE TRACE: numbers of the bodies that ran in the latest act(), as they began; the first 24 are kept.");
        for (int kind = 0; kind < 8; kind++) {
            RungByHeart x = Edge.fresh();
            x.body(kind);
            for (int act = 0; act < 4; act++) {
                x.act(0, act, 3);
                Ways.act(kind, 0, act, 3);
                List<Integer> ran = Ways.bodies();
                Edge.due("kind " + kind + ", act " + act + ": how many ran", x.count(4), ran.size());
                for (int i = -2; i < 27; i++) {
                    Edge.due("kind " + kind + ", act " + act + ", trace(" + i + ")", x.trace(i),
                        i >= 0 && i < ran.size() ? ran.get(i) : Edge.BAD);
                }
            }
        }
    }

    // ---- shelves

    private static long kept(int sort, long v) {
        switch (sort) {
            case 0:
                return (byte) v;
            case 1:
                return (short) v;
            case 2:
                return (int) v;
            case 3:
                return v;
            default:
                return v == 0 ? 0 : 1;
        }
    }

    private static void shelves() {
        Edge.says("SHELVES 0 .. 5 each hold nothing (at first), a STROKE (a BODY), or a ROW: of 0 bytes, 1 shorts, 2 ints, "
            + "3 longs, 4 booleans, of 0 .. 60 elements, 0 at first (false); what is put in keeps its lowest bits (a boolean: "
            + "whether it is not 0; 1 or 0).");
        RungByHeart x = Edge.fresh();
        Edge.range("nothing at first", 0, 5, v -> x.put(v, 0, 0), v -> Edge.NOTHING);
        Edge.range("nothing at first", 0, 5, v -> x.taken(v, 0), v -> Edge.NOTHING);
        for (int sort = 0; sort <= 4; sort++) {
            eachSize(sort);
            RungByHeart y = Edge.fresh();
            y.row(sort, sort, 60);
            for (int i = 0; i < NUMBERS.length; i++) {
                Edge.due("put", y.put(sort, i, NUMBERS[i]), 1);
            }
            for (int i = 0; i < 60; i++) {
                Edge.due("sort " + sort + ", element " + i, y.element(sort, i), i < NUMBERS.length ? kept(sort, NUMBERS[i]) : 0);
            }
        }
        eachShelfItsOwn();
    }

    private static void eachSize(int sort) {
        for (int size = 0; size <= 60; size++) {
            RungByHeart x = Edge.fresh();
            // What stood there ahead is gone.
            x.row(0, sort, 60);
            for (int i = 0; i < 60; i++) {
                x.put(0, i, -1);
            }
            Edge.due("row", x.row(0, sort, size), 1);
            for (int i = 0; i <= 61; i++) {
                Edge.due("sort " + sort + ", element " + i + " of " + size, x.element(0, i), i < size ? 0 : Long.MIN_VALUE);
                Edge.due("sort " + sort + ", place " + i + " of " + size, x.put(0, i, 1), i < size ? 1 : Edge.PLACE);
            }
        }
    }

    private static void eachShelfItsOwn() {
        RungByHeart x = Edge.fresh();
        for (int shelf = 0; shelf < 6; shelf++) {
            x.body(shelf);
            x.row(shelf, shelf % 5, shelf + 1);
            x.put(shelf, shelf, 1);
        }
        for (int shelf = 0; shelf < 6; shelf++) {
            Edge.due("the last one", x.element(shelf, shelf), 1);
            Edge.due("behind it", x.element(shelf, shelf + 1), Long.MIN_VALUE);
        }
        for (int shelf = 0; shelf < 6; shelf++) {
            Edge.due("a stroke", x.keep(shelf, shelf), 1);
            Edge.due("no row any more", x.put(shelf, 0, 0), Edge.OTHER);
            Edge.due("of its kind", x.taken(shelf, shelf), shelf);
            Edge.due("on the next one nothing has changed", shelf == 5 ? 1 : x.element(shelf + 1, shelf + 1), 1);
        }
        for (int shelf = 0; shelf < 6; shelf++) {
            Edge.due("nothing", x.keep(shelf, -1), 1);
            Edge.due("nothing is there", x.taken(shelf, shelf), Edge.NOTHING);
        }
        x.row(3, 2, 4);
        x.put(3, 2, 7);
        x.row(3, 2, 4);
        Edge.due("a new row", x.element(3, 2), 0);
    }

    private static void refusals() {
        Edge.says("The host's REFUSALS: -11 nothing is there where something is wanted; -12 it is of another kind; -13 a place "
            + "that is not there; -14 a size below 0.");
        RungByHeart x = Edge.deafFarms(1);
        x.body(7);
        x.keep(1, 0);
        x.row(2, 4, 2);
        x.row(3, 3, 2);
        Edge.due("nothing", x.put(0, 0, 0), Edge.NOTHING);
        Edge.due("nothing", x.shift(0, 0, 2, 0, 0), Edge.NOTHING);
        Edge.due("nothing", x.shift(2, 0, 0, 0, 0), Edge.NOTHING);
        Edge.due("nothing", x.taken(0, 0), Edge.NOTHING);
        Edge.due("nothing", x.late(0, 0, 0), Edge.NOTHING);
        Edge.due("a stroke", x.put(1, 0, 0), Edge.OTHER);
        Edge.due("a stroke", x.shift(1, 0, 1, 0, 0), Edge.OTHER);
        Edge.due("a row", x.taken(2, 0), Edge.OTHER);
        Edge.due("unlike", x.shift(2, 0, 3, 0, 0), Edge.OTHER);
        Edge.due("a mourner for a knee", x.taken(1, 2), Edge.OTHER);
        Edge.due("booleans", x.which(2), Edge.OTHER);
        Edge.due("the place behind the last", x.put(2, 2, 0), Edge.PLACE);
        Edge.due("the place ahead of the first", x.put(2, -1, 0), Edge.PLACE);
        Edge.due("one place too many", x.shift(2, 0, 2, 0, 3), Edge.PLACE);
        Edge.due("a size below 0", x.row(2, 0, -1), Edge.SIZE);
    }

    // ---- promises 36 to 45

    private static void promisedBody() {
        Edge.says("`int body(int kind)`: A STROKE of a KIND (0 .. 7) is kept: its number. BAD, FULL.");
        RungByHeart x = Edge.fresh();
        Edge.range("body", 0, 7, x::body, v -> v);
        for (int n = 8; n < 50; n++) {
            Edge.due("body", x.body(7), n);
        }
        Edge.due("no more", x.body(0), Edge.FULL);
        Edge.due("no more", x.body(7), Edge.FULL);
        Edge.range("full, too", 0, 7, x::body, v -> Edge.FULL);
        Edge.due("bodies", x.count(3), 50);
    }

    private static void promisedAct() {
        Edge.says("`int act(int body, int act, int x)`: An ACT (0 .. 3) of a STROKE with x. 0, and no TRACE then: "
            + "no such STROKE, ACT.");
        RungByHeart x = Edge.fresh();
        Edge.due("no stroke", x.act(0, 0, 5), 0);
        Edge.due("none ran", x.count(4), 0);
        x.body(0);
        x.body(7);
        int[] off = {Edge.MIN, -256, -2, -1, 2, 3, 50, 256, Edge.MAX};
        for (int body : off) {
            Edge.due("an act ahead", x.act(1, 3, 5), Ways.act(7, 1, 3, 5));
            Edge.due("14 ran", x.count(4), 14);
            Edge.due("body " + body, x.act(body, 0, 5), 0);
            Edge.due("no trace", x.trace(0), Edge.BAD);
            Edge.due("none ran", x.count(4), 0);
        }
        int[] acts = {Edge.MIN, -256, -1, 4, 5, 10, 256, Edge.MAX};
        for (int act : acts) {
            Edge.due("an act ahead", x.act(1, 3, 5), Ways.act(7, 1, 3, 5));
            Edge.due("act " + act, x.act(1, act, 5), 0);
            Edge.due("no trace", x.trace(0), Edge.BAD);
            Edge.due("none ran", x.count(4), 0);
        }
        Edge.due("rings", x.act(1, 0, 5), 9);
        Edge.due("hears", x.act(0, 1, 5), 10);
        Edge.due("the bodies stay", x.count(3), 2);
    }

    private static void promisedTrace() {
        Edge.says("`int trace(int i)`: THE TRACE's i-th body. BAD.");
        RungByHeart x = Edge.fresh();
        Edge.range("ahead of the first act", 0, -1, x::trace, v -> 0);
        x.body(7);
        int[] told = {81, 2, 80, 10, 20, 1, 50, 11, 20, 1, 50, 11, 20, 1};
        x.act(0, 3, 0);
        Edge.range("trace", 0, 13, x::trace, v -> told[v]);
        x.act(0, 0, 0);
        Edge.range("trace", 0, 1, x::trace, v -> v == 0 ? 20 : 1);
        x.act(1, 0, 0);
        Edge.range("no trace then", 0, -1, x::trace, v -> 0);
    }

    private static void promisedKeep() {
        Edge.says("`int keep(int shelf, int body)`: A SHELF holds nothing (body -1), or a STROKE: 1. BAD.");
        for (int many = 0; many <= 50; many += many < 3 || many > 46 ? 1 : 11) {
            RungByHeart x = Edge.fresh();
            for (int n = 0; n < many; n++) {
                x.body(n % 8);
            }
            Edge.range("body, of " + many, -1, many - 1, v -> x.keep(2, v), v -> 1);
            Edge.due("the last one allowed stays", x.taken(2, 0), many > 0 ? (many - 1) % 8 : Edge.NOTHING);
            Edge.range("shelf", 0, 5, v -> x.keep(v, -1), v -> 1);
            Edge.due("neither", x.keep(6, many), Edge.BAD);
        }
        RungByHeart x = Edge.fresh();
        x.row(0, 2, 3);
        Edge.due("no such body", x.keep(0, 0), Edge.BAD);
        Edge.due("the row stays", x.put(0, 2, 1), 1);
        Edge.due("nothing", x.keep(0, -1), 1);
        Edge.due("nothing", x.put(0, 2, 1), Edge.NOTHING);
    }

    private static void promisedRow() {
        Edge.says("`int row(int shelf, int sort, int n)`: A SHELF holds a ROW: 1. BAD (sort, n above 60); -14.");
        RungByHeart x = Edge.fresh();
        Edge.range("shelf", 0, 5, v -> x.row(v, 0, 1), v -> 1);
        Edge.range("sort", 0, 4, v -> x.row(0, v, 1), v -> 1);
        int[] below = {Edge.MIN, Edge.MIN + 1, -256, -61, -60, -2, -1};
        int[] above = {61, 62, 100, 256, 316, 65536, Edge.MAX - 1, Edge.MAX};
        for (int sort = 0; sort <= 4; sort++) {
            RungByHeart y = Edge.fresh();
            for (int n = 0; n <= 60; n++) {
                Edge.due("sort " + sort + ", n " + n, y.row(0, sort, n), 1);
            }
            y.put(0, 59, 1);
            for (int n : below) {
                Edge.due("n " + n, y.row(0, sort, n), Edge.SIZE);
                Edge.due("no such sort, n " + n, y.row(0, 5, n), Edge.BAD);
                Edge.due("no such shelf, n " + n, y.row(6, sort, n), Edge.BAD);
            }
            for (int n : above) {
                Edge.due("n " + n, y.row(0, sort, n), Edge.BAD);
            }
            Edge.due("the row stays", y.element(0, 59), 1);
            Edge.due("the row stays", y.element(0, 60), Long.MIN_VALUE);
        }
        x.keep(1, -1);
        x.row(1, 0, -1);
        Edge.due("still nothing", x.taken(1, 0), Edge.NOTHING);
    }

    private static void promisedPut() {
        Edge.says("`int put(int shelf, int i, long v)`: Element i of a ROW becomes v: 1. BAD, -11, -12, -13.");
        int[] sizes = {0, 1, 2, 59, 60};
        int[] far = {Edge.MIN, Edge.MIN + 1, -256, -60, -1, 61, 64, 256, 65536, Edge.MAX - 1, Edge.MAX};
        for (int size : sizes) {
            RungByHeart x = Edge.fresh();
            x.row(0, 3, size);
            for (int i = 0; i <= 61; i++) {
                Edge.due("place " + i + " of " + size, x.put(0, i, i + 1), i < size ? 1 : Edge.PLACE);
            }
            for (int i : far) {
                Edge.due("place " + i + " of " + size, x.put(0, i, 99), Edge.PLACE);
            }
            for (int i = 0; i < size; i++) {
                Edge.due("element " + i, x.element(0, i), i + 1);
            }
        }
        RungByHeart x = Edge.fresh();
        x.body(0);
        x.keep(1, 0);
        x.row(0, 0, 1);
        Edge.range("shelf", 0, 5, v -> x.put(v, 0, 0), v -> v == 0 ? 1 : v == 1 ? Edge.OTHER : Edge.NOTHING);
        Edge.range("shelf, no place", 0, 5, v -> x.put(v, -1, 0), v -> v == 0 ? Edge.PLACE : v == 1 ? Edge.OTHER : Edge.NOTHING);
    }

    private static void promisedElement() {
        Edge.says("`long element(int shelf, int i)`: Element i of a ROW; Long.MIN_VALUE: BAD, -11 to -13.");
        RungByHeart x = Edge.fresh();
        x.body(0);
        x.keep(1, 0);
        x.row(0, 3, 60);
        x.row(2, 0, 0);
        x.row(3, 4, 1);
        for (int i = 0; i < 60; i++) {
            x.put(0, i, 100 + i);
        }
        for (int i = -3; i < 64; i++) {
            Edge.due("element " + i, x.element(0, i), i < 0 || i > 59 ? Long.MIN_VALUE : 100 + i);
        }
        int[] far = {Edge.MIN, Edge.MIN + 1, -256, 256, 65536, Edge.MAX};
        for (int i : far) {
            Edge.due("element " + i, x.element(0, i), Long.MIN_VALUE);
            Edge.due("shelf " + i, x.element(i, 0), Long.MIN_VALUE);
        }
        Edge.due("of a stroke", x.element(1, 0), Long.MIN_VALUE);
        Edge.due("of no elements", x.element(2, 0), Long.MIN_VALUE);
        Edge.due("false", x.element(3, 0), 0);
        Edge.due("of nothing", x.element(4, 0), Long.MIN_VALUE);
        Edge.due("shelf -1", x.element(-1, 0), Long.MIN_VALUE);
        Edge.due("shelf 6", x.element(6, 0), Long.MIN_VALUE);
        x.put(0, 0, Long.MAX_VALUE);
        x.put(0, 1, -1);
        Edge.due("the highest", x.element(0, 0), Long.MAX_VALUE);
        Edge.due("-1 is no BAD", x.element(0, 1), -1);
    }

    private static void promisedShift() {
        Edge.says("`int shift(int shelf, int i, int other, int j, int n)`: n elements of a ROW from i on come to another one "
            + "(or the same) from j on, as they all were before: n. BAD, -11 (either), -12 (no ROWS, or of unlike sorts), "
            + "-13.");
        for (int i = -1; i <= 5; i++) {
            for (int j = -1; j <= 7; j++) {
                for (int n = -1; n <= 6; n++) {
                    shifted(i, 0, j, n);
                    shifted(i, 1, j, n);
                }
            }
        }
        int[] far = {Edge.MIN, Edge.MIN + 1, -61, 61, Edge.MAX - 1, Edge.MAX};
        for (int a : far) {
            for (int b : far) {
                shifted(a, 1, 0, b);
                shifted(0, 1, a, b);
                shifted(a, 0, b, 1);
                shifted(a, 1, a, b);
            }
            shifted(a, 0, 0, 0);
            shifted(0, 0, a, 0);
            shifted(0, 0, 0, a);
        }
        shiftWhole();
        shiftRefused();
    }

    /** A row of four, on the same shelf or to one of six on the other. */
    private static void shifted(int i, int other, int j, int n) {
        RungByHeart x = Edge.fresh();
        x.row(0, 2, 4);
        x.row(1, 2, 6);
        long[][] rows = {new long[4], new long[6]};
        for (int shelf = 0; shelf < 2; shelf++) {
            for (int k = 0; k < rows[shelf].length; k++) {
                rows[shelf][k] = 10 * shelf + k + 1;
                x.put(shelf, k, rows[shelf][k]);
            }
        }
        boolean places = i >= 0 && j >= 0 && n >= 0 && i <= 4 && n <= 4 - i && j <= rows[other].length && n <= rows[other].length - j;
        if (places) {
            System.arraycopy(rows[0], i, rows[other], j, n);
        }
        String call = "shift(0, " + i + ", " + other + ", " + j + ", " + n + ")";
        Edge.due(call, x.shift(0, i, other, j, n), places ? n : Edge.PLACE);
        for (int shelf = 0; shelf < 2; shelf++) {
            for (int k = 0; k < rows[shelf].length; k++) {
                Edge.due(call + ", shelf " + shelf + ", element " + k, x.element(shelf, k), rows[shelf][k]);
            }
        }
    }

    private static void shiftWhole() {
        for (int sort = 0; sort <= 4; sort++) {
            RungByHeart x = Edge.fresh();
            x.row(0, sort, 60);
            x.row(5, sort, 60);
            for (int i = 0; i < 60; i++) {
                x.put(0, i, NUMBERS[i % NUMBERS.length]);
            }
            Edge.due("all of it", x.shift(0, 0, 5, 0, 60), 60);
            Edge.due("one too many", x.shift(0, 0, 5, 0, 61), Edge.PLACE);
            Edge.due("none of it, behind the last", x.shift(0, 60, 5, 60, 0), 0);
            Edge.due("all but the first", x.shift(5, 1, 5, 0, 59), 59);
            for (int i = 0; i < 60; i++) {
                Edge.due("element " + i, x.element(5, i), kept(sort, NUMBERS[Math.min(59, i + 1) % NUMBERS.length]));
            }
            x.row(1, sort, 0);
            Edge.due("of no elements", x.shift(1, 0, 1, 0, 0), 0);
            Edge.due("of no elements", x.shift(1, 0, 5, 60, 0), 0);
            Edge.due("of no elements", x.shift(1, 0, 5, 0, 1), Edge.PLACE);
        }
    }

    private static void shiftRefused() {
        RungByHeart x = Edge.fresh();
        x.body(0);
        for (int sort = 0; sort <= 3; sort++) {
            x.row(sort, sort, 3);
        }
        x.keep(4, 0);
        int[] off = {Edge.MIN, -1, 6, 256, Edge.MAX};
        for (int shelf : off) {
            Edge.due("no such shelf", x.shift(shelf, 0, 0, 0, 0), Edge.BAD);
            Edge.due("no such shelf", x.shift(0, 0, shelf, 0, 0), Edge.BAD);
            Edge.due("BAD ahead of -11", x.shift(shelf, 0, 5, 0, 0), Edge.BAD);
            Edge.due("BAD ahead of -12", x.shift(4, 0, shelf, 0, 0), Edge.BAD);
        }
        for (int from = 0; from < 6; from++) {
            for (int to = 0; to < 6; to++) {
                boolean nothing = from == 5 || to == 5;
                boolean unlike = from != to || from == 4;
                int want = nothing ? Edge.NOTHING : unlike ? Edge.OTHER : 3;
                Edge.due(from + " to " + to, x.shift(from, 0, to, 0, 3), want);
                Edge.due(from + " to " + to + ", no place", x.shift(from, 0, to, 0, 4), want == 3 ? Edge.PLACE : want);
                Edge.due(from + " to " + to + ", n -1", x.shift(from, 0, to, 0, -1), want == 3 ? Edge.PLACE : want);
            }
        }
    }

    private static void promisedTaken() {
        Edge.says("`int taken(int shelf, int k)`: What a SHELF holds, taken for a STROKE of KIND k (0 .. 7), or under it: "
            + "its KIND. BAD, -11, -12.");
        RungByHeart x = Edge.fresh();
        for (int kind = 0; kind < 8; kind++) {
            x.body(kind);
            x.keep(0, kind);
            int of = kind;
            Edge.range("kind " + kind + " for", 0, 7, v -> x.taken(0, v), v -> Ways.isUnder(of, v) ? of : Edge.OTHER);
        }
        x.row(1, 0, 8);
        Edge.range("shelf", 0, 5, v -> x.taken(v, 7), v -> v == 0 ? 7 : v == 1 ? Edge.OTHER : Edge.NOTHING);
        Edge.range("a row for", 0, 7, v -> x.taken(1, v), v -> Edge.OTHER);
        Edge.range("nothing for", 0, 7, v -> x.taken(2, v), v -> Edge.NOTHING);
    }

    private static void promisedCount() {
        Edge.says("How many: 0 FARMS, 1 bytes on THE TAPE, 2 changes that may be UNDONE, 3 BODIES, 4 bodies that ran in the latest "
            + "act() (all, kept or not). BAD.");
        RungByHeart x = Edge.deafFarms(10);
        for (int i = 0; i < 120; i++) {
            x.feed('1');
        }
        for (int v = 2; v <= 42; v++) {
            x.mend(0, 2, v);
        }
        for (int n = 0; n < 51; n++) {
            x.body(7);
        }
        x.act(49, 3, 0);
        int[] full = {10, 120, 40, 50, 14};
        Edge.range("count", 0, 4, x::count, v -> full[v]);
        x.act(50, 3, 0);
        x.law();
        for (int k = 0; k < 40; k++) {
            x.undo();
        }
        int[] then = {10, 0, 0, 50, 0};
        Edge.range("count", 0, 4, x::count, v -> then[v]);
        RungByHeart y = Edge.fresh();
        Edge.range("count", 0, 4, y::count, v -> 0);
    }
}
