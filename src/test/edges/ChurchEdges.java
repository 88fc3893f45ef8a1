import java.util.function.IntToLongFunction;

/** Edges of another church, of days seen and drawn, and of promises 19 to 27. */
final class ChurchEdges {
    private ChurchEdges() {
    }

    static void run() {
        anotherChurch();
        seen();
        kinds();
        howFar();
        which();
        asTold();
        deaf();
        drawn();
        promisedChurch();
        promisedAlike();
        promisedSeen();
        promisedTold();
        promisedDrawn();
    }

    // ---- another church

    private static void anotherChurch() {
        Edge.says("in how many minutes 0 .. n both ring the same; the first minute from which on they do to 300 (NOT).");
        for (int from = 1; from <= 301; from++) {
            RungByHeart x = Edge.withLaw("m<" + from + "?r;0");
            Edge.due("unlike ahead of " + from, x.alike(0, -1), from > 300 ? Edge.NOT : from);
            Edge.due("in how many", x.alike(0, 300), 301 - from);
            Edge.due("in none ahead of it", x.alike(0, from - 1), 0);
            if (from <= 300) {
                Edge.due("in the first", x.alike(0, from), 1);
            }
            Edge.due("always", x.alike(1, -1), 0);
        }
        RungByHeart x = Edge.withLaw("g=300?0;1");
        Edge.due("unlike in 0 and 300 alone", x.alike(0, -1), Edge.NOT);
        Edge.due("unlike in 0 and 300 alone", x.alike(0, 300), 299);
        Edge.due("unlike in 0 and 300 alone", x.alike(0, 299), 299);
        Edge.due("unlike in 0 and 300 alone", x.alike(0, 0), 0);
        ownChurch();
        eachSet();
    }

    private static void ownChurch() {
        Edge.says("ANOTHER CHURCH: rings from minute 0 on what THE LAW gives it by the same FARMS' SIGNS (its own r, g; BEGINS "
            + "of its own; r, g in THE LAW are its own), but FARMS of a set (bits) HEAR it, not the first one: what either "
            + "rings in a minute;");
        RungByHeart r = Edge.withLaw("r");
        RungByHeart g = Edge.withLaw("g=1&m=1?3;g");
        Edge.begins(g, 3);
        for (int begins = 0; begins <= 3; begins++) {
            Edge.due("its BEGINS", r.church(begins, 0, 1), begins);
            Edge.due("its r", r.church(begins, 300, 1), begins);
            Edge.due("the first one's BEGINS", r.church(begins, 0, 0), 1);
            Edge.due("the first one's r", r.church(begins, 300, 0), 1);
            Edge.due("its g", g.church(begins, 2, 1), begins == 3 ? 2 : 1);
            Edge.due("the first one's g", g.church(begins, 2, 0), 2);
        }
    }

    /** Of so many farms one alone hears the other church, whose 3 in minute 0 it does: 3 is rung then, else 0. */
    private static void eachSet() {
        for (int many = 1; many <= 10; many++) {
            RungByHeart x = Edge.withLaw("m=1&c>0?3;0");
            for (int f = 0; f < many; f++) {
                x.farm(0, f == many - 1 ? 0 : 1);
            }
            int last = 1 << many - 1;
            Edge.due("it hears the other", x.church(last * 10 + 3, 1, 0), 3);
            Edge.due("all hear the other", x.church((2 * last - 1) * 10 + 3, 1, 1), 3);
            Edge.due("all but it hear the other", x.church((last - 1) * 10 + 3, 1, 0), 0);
            Edge.due("none hears the other", x.church(3, 1, 1), 0);
            Edge.lawOf(x, "m=1&a+b+c=" + many + "?2;0");
            for (int f = 0; f < many; f++) {
                x.mend(f, 1, 0);
            }
            Edge.due("so many do something", x.church(3, 1, 1), 2);
            Edge.due("so many do something", x.church(last * 10 + 3, 1, 0), 2);
            Edge.due("all but one", x.church(last * 10, 1, 0), 0);
        }
    }

    // ---- days seen

    private static void seen() {
        Edge.says("SEEN: a ROW of bytes: what a FARM did minute by minute (a byte that is no SIGN: not seen): JUDGED: "
            + "the first that is not so (the day as told); NOT.");
        for (int size = 0; size <= 60; size++) {
            RungByHeart x = Edge.scale();
            x.farm(0, 0);
            x.row(0, 0, size);
            for (int i = 0; i < size; i++) {
                x.put(0, i, i % 4);
            }
            Edge.due(size + " bytes that are so", x.judge(0, 0), Edge.NOT);
            if (size > 0) {
                x.put(0, size - 1, size % 4);
                Edge.due("the last is not so", x.judge(0, 0), size - 1);
                x.put(0, 0, 1);
                Edge.due("the first is not so", x.judge(0, 0), 0);
            }
        }
        for (int v = -128; v <= 127; v++) {
            RungByHeart x = Edge.withLaw("m=2*3");
            x.farm(0, 1);
            Edge.bytes(x, 0, 4, v, 4, 1);
            Edge.due("byte " + v, x.judge(0, 0), v > 0 && v <= 3 ? 1 : 3);
        }
        RungByHeart x = Edge.scale();
        x.farm(0, 0);
        Edge.bytes(x, 0, 256, 257, 514, -253, 260);
        Edge.due("lowest bits", x.judge(0, 0), Edge.NOT);
    }

    private static void kinds() {
        Edge.says("KINDS: which of KINDS 0 .. 5 it may be of (bits): if it were of that KIND, all else as it is, the day would "
            + "be so.");
        for (int kind = 0; kind <= 5; kind++) {
            RungByHeart x = Edge.scale();
            Edge.begins(x, 3);
            x.farm(1, kind);
            x.mend(0, 2, 2);
            x.mend(0, 3, 2);
            x.mend(0, 4, 1);
            // By AT 2, DOES 2, FAR 1 and RESTS 1, what each kind does in minutes 0 to 6.
            int[][] did = {{0, 3, 1, 2, 3, 0, 1}, {0, 0, 0, 0, 0, 0, 0}, {0, 3, 2, 1, 3, 0, 2}, {2, 0, 0, 2, 0, 0, 2},
                {0, 0, 3, 1, 2, 3, 0}, {0, 3, 2, 2, 2, 2, 2}};
            for (int seen = 0; seen <= 5; seen++) {
                Edge.bytes(x, 0, did[seen]);
                Edge.due("kind " + seen + " alone", x.kinds(0, 0), 1 << seen);
            }
            Edge.bytes(x, 0, 3, 1, 1);
            Edge.due("of none", x.kinds(0, 0), 0);
            Edge.bytes(x, 0);
            Edge.due("an empty row: of each", x.kinds(0, 0), 63);
            Edge.bytes(x, 0, 4, -1, 127, -128);
            Edge.due("nothing seen: of each", x.kinds(0, 0), 63);
            Edge.due("its kind stays", x.of(0, 1), kind);
        }
    }

    private static void howFar() {
        Edge.says("HOW FAR: FAR (0 .. 9; the least) by which the day would be so; NOT.");
        for (int is = 0; is <= 9; is += 3) {
            RungByHeart x = Edge.withLaw("0");
            x.farm(is, 0);
            for (int far = 0; far <= 11; far++) {
                x.row(0, 0, 12);
                x.put(0, far, 1);
                Edge.due("heard in minute " + far, x.howFar(0, 0), far <= 9 ? far : Edge.NOT);
                x.row(0, 0, far);
                Edge.due("not heard in " + far + " minutes", x.howFar(0, 0), far <= 9 ? far : Edge.NOT);
            }
            Edge.bytes(x, 0, 4, 4, 4);
            Edge.due("nothing seen", x.howFar(0, 0), 0);
            Edge.bytes(x, 0, 0, 0, 4, 4);
            Edge.due("the least", x.howFar(0, 0), 2);
            Edge.bytes(x, 0, 2);
            Edge.due("by none", x.howFar(0, 0), Edge.NOT);
            Edge.due("its FAR stays", x.of(0, 0), is);
        }
    }

    private static void which() {
        Edge.says("WHICH FARM: which FARMS (bits) did so, the day as told.");
        for (int many = 0; many <= 10; many++) {
            RungByHeart x = Edge.withLaw("0");
            for (int far = 0; far < many; far++) {
                x.farm(far, 0);
            }
            Edge.bytes(x, 0);
            Edge.due("an empty row", x.which(0), (1 << many) - 1);
            Edge.bytes(x, 0, 4, -1);
            Edge.due("nothing seen", x.which(0), (1 << many) - 1);
            Edge.bytes(x, 0, 2);
            Edge.due("none of " + many, x.which(0), 0);
            for (int far = 0; far < 10; far++) {
                x.row(0, 0, 10);
                x.put(0, far, 1);
                Edge.due("farm " + far + " of " + many, x.which(0), far < many ? 1 << far : 0);
            }
            x.row(0, 0, 60);
            Edge.due("none did nothing all the time", x.which(0), 0);
        }
    }

    private static void asTold() {
        Edge.says("RUNG AS TOLD: a ROW of bytes: what was rung minute by minute: the first minute that is not so; NOT.");
        for (int size = 0; size <= 60; size++) {
            RungByHeart x = Edge.scale();
            x.row(0, 0, size);
            for (int i = 0; i < size; i++) {
                x.put(0, i, i % 4);
            }
            Edge.due(size + " bytes that are so", x.asTold(0), Edge.NOT);
            if (size > 0) {
                x.put(0, size - 1, size % 4);
                Edge.due("the last is not so", x.asTold(0), size - 1);
                x.put(0, 0, 1);
                Edge.due("the first is not so", x.asTold(0), 0);
            }
        }
        RungByHeart x = Edge.scale();
        for (int v = -128; v <= 127; v++) {
            x = v % 64 == 0 ? Edge.scale() : x;
            Edge.bytes(x, 0, v);
            Edge.due("byte " + v, x.asTold(0), v == 0 ? Edge.NOT : 0);
        }
    }

    private static void deaf() {
        Edge.says("WHO IS DEAF: the least set of FARMS (bits), all DEAF, by which it is so; NOT.");
        for (int many = 0; many <= 10; many++) {
            RungByHeart x = Edge.withLaw("a>0");
            for (int f = 0; f < many; f++) {
                Edge.sham(x, 1);
            }
            Edge.bytes(x, 0, 1, 0);
            Edge.due("all of " + many, x.deaf(0), (1 << many) - 1);
            Edge.bytes(x, 0, 1, 1);
            Edge.due("none of " + many, x.deaf(0), many > 0 ? 0 : Edge.NOT);
            Edge.bytes(x, 0, 1, 2);
            Edge.due("never", x.deaf(0), Edge.NOT);
            Edge.bytes(x, 0, 0);
            Edge.due("minute 0 is BEGINS", x.deaf(0), Edge.NOT);
            Edge.bytes(x, 0);
            Edge.due("an empty row", x.deaf(0), 0);
            Edge.lawOf(x, "a<" + many);
            Edge.bytes(x, 0, 1, 1);
            Edge.due("one of " + many, x.deaf(0), many > 0 ? 1 : Edge.NOT);
        }
        RungByHeart x = Edge.withLaw("(a>1)*2+(b>1)");
        Edge.sham(x, 1);
        Edge.sham(x, 2);
        Edge.sham(x, 2);
        Edge.sham(x, 1);
        Edge.bytes(x, 0, 1, 0);
        Edge.due("the least set", x.deaf(0), 3);
        x.mend(1, 3, 3);
        Edge.due("the least set", x.deaf(0), 1);
        Edge.due("the kind stays", x.of(0, 1), 5);
        // The last of 60 minutes counts, too.
        RungByHeart late = Edge.withLaw("a&m=59");
        Edge.begins(late, 0);
        late.farm(0, 1);
        late.farm(0, 5);
        late.row(0, 0, 60);
        Edge.due("to minute 59", late.deaf(0), 2);
        late.row(0, 0, 59);
        Edge.due("to minute 58", late.deaf(0), 0);
    }

    // ---- days drawn

    private static void drawn() {
        Edge.says("DRAWN: n days (1 .. 20) of m minutes (1 .. 99) by a SEED: z = z * 1103515245 + 12345 (an int; SEED at first) "
            + "ahead of each minute (0, too): RAIN, if (z >>> 8) % 12 is below RAINS (0 .. 12; 0 at first): all FARMS do 0 in "
            + "it: in how many minutes something is rung in all; on how many days it has ended (nothing is rung in the last "
            + "minute).");
        RungByHeart r = Edge.fresh();
        Edge.due("RAINS at first", r.of(0, 7), 0);
        Edge.range("RAINS", 0, 12, v -> r.mend(0, 7, v), v -> v == 0 ? 0 : v - 1);
        Edge.due("RAINS", r.of(0, 7), 12);
        eachRain();
        drawnAsHeard();
        int[] seeds = {0, 1, -1, 12345, -12345, 1103515245, Edge.MIN, Edge.MIN + 1, Edge.MAX - 1, Edge.MAX};
        int[] days = {101, 102, 103, 199, 201, 202, 299, 1003, 1999, 2001, 2002, 2013, 2099};
        for (int seed : seeds) {
            for (int nm : days) {
                eachWeather(seed, nm);
            }
        }
    }

    /** One farm does 1 unless it rains: by a day of two minutes it is told whether it rained in minute 0. */
    private static void eachRain() {
        for (int seed = -300; seed < 300; seed += 7) {
            int rain = (draw(seed) >>> 8) % 12;
            RungByHeart x = Edge.withLaw("a");
            Edge.sham(x, 1);
            for (int rains = 0; rains <= 12; rains++) {
                x.mend(0, 7, rains);
                Edge.due("seed " + seed + ", ended by RAINS " + rains, x.drawn(seed, 102, 1), rain < rains ? 1 : 0);
                Edge.due("seed " + seed + ", rung by RAINS " + rains, x.drawn(seed, 102, 0), rain < rains ? 1 : 2);
            }
        }
    }

    /** Without rain each day goes as a day in thought. */
    private static void drawnAsHeard() {
        RungByHeart x = Edge.withLaw("a+b*2+c*3");
        Edge.begins(x, 2);
        x.farm(0, 0);
        Edge.due("it hears at once: always", x.drawn(1, 2099, 0), 1980);
        Edge.due("it never ends", x.drawn(1, 2099, 1), 0);
        x.mend(0, 0, 9);
        Edge.due("in minutes 0 and 10", x.drawn(1, 2011, 0), 40);
        Edge.due("in minute 10", x.drawn(1, 2011, 1), 0);
        Edge.due("in minute 0", x.drawn(1, 2010, 0), 20);
        Edge.due("not in minute 9", x.drawn(1, 2010, 1), 20);
        x.mend(0, 1, 3);
        x.mend(0, 2, 6);
        Edge.due("a dog: in minutes 0, 1, 8, 15", x.drawn(1, 316, 0), 12);
        Edge.due("in minute 15", x.drawn(1, 316, 1), 0);
        Edge.due("not in minute 16", x.drawn(1, 317, 1), 3);
        x.mend(0, 1, 5);
        x.mend(0, 2, 99);
        Edge.due("a sham too late", x.drawn(1, 2099, 0), 20 * 10);
    }

    private static int draw(int z) {
        return z * 1103515245 + 12345;
    }

    private static void eachWeather(int seed, int nm) {
        RungByHeart x = Edge.withLaw("a");
        Edge.sham(x, 1);
        for (int rains = 0; rains <= 12; rains += 3) {
            x.mend(0, 7, rains);
            int z = seed;
            int rung = 0;
            int ended = 0;
            for (int d = 0; d < nm / 100; d++) {
                boolean rings = true;
                for (int m = 0; m < nm % 100; m++) {
                    rung += rings ? 1 : 0;
                    ended += m == nm % 100 - 1 && !rings ? 1 : 0;
                    z = draw(z);
                    rings = (z >>> 8) % 12 >= rains;
                }
            }
            Edge.due("seed " + seed + ", " + nm + ", RAINS " + rains, x.drawn(seed, nm, 0), rung);
            Edge.due("seed " + seed + ", " + nm + ", RAINS " + rains + ", ended", x.drawn(seed, nm, 1), ended);
        }
    }

    // ---- promises 19 to 27

    private static void promisedChurch() {
        Edge.says("`int church(int sb, int minute, int what)`: ANOTHER CHURCH (sb: 10 times the set, and its BEGINS): what the "
            + "first rings in a minute (what 0), the other one (1). BAD.");
        for (int many = 0; many <= 10; many++) {
            int sets = 1 << many;
            int[] tried = {-11, -10, -9, -1, 0, 1, 3, 4, 9, 10, 13, 14, 20, 23, sets * 10 - 10, sets * 10 - 7, sets * 10 - 6,
                sets * 10 - 1, sets * 10, sets * 10 + 3, sets * 20 + 1, 10240, 20480, Edge.MIN, Edge.MIN + 8, Edge.MAX - 7,
                Edge.MAX};
            RungByHeart x = Edge.deafFarms(many);
            for (int sb : tried) {
                boolean is = sb >= 0 && sb / 10 < sets && sb % 10 <= 3;
                Edge.due(many + " farms, sb " + sb, x.church(sb, 0, 1), is ? sb % 10 : Edge.BAD);
                Edge.due(many + " farms, alike by " + sb, x.alike(sb, 0), !is ? Edge.BAD : sb % 10 == 1 ? 1 : 0);
            }
        }
        RungByHeart x = Edge.withLaw("r");
        Edge.range("minute", 0, 300, v -> x.church(2, v, 1), v -> 2);
        Edge.range("what", 0, 1, v -> x.church(2, 300, v), v -> v + 1);
        Edge.due("none of them", x.church(4, 301, 2), Edge.BAD);
    }

    private static void promisedAlike() {
        Edge.says("`int alike(int sb, int n)`: In how many minutes 0 .. n both ring the same (n 0 on); the first from which on "
            + "(-1; NOT). BAD.");
        RungByHeart x = Edge.withLaw("r");
        for (int n = -4; n <= 303; n++) {
            Edge.due("n " + n, x.alike(1, n), n < -1 || n > 300 ? Edge.BAD : n + 1);
        }
        int[] far = {Edge.MIN, Edge.MIN + 1, -256, 65536, Edge.MAX};
        for (int n : far) {
            Edge.due("n " + n, x.alike(1, n), Edge.BAD);
        }
        Edge.due("never", x.alike(2, -1), Edge.NOT);
        Edge.due("never", x.alike(2, 300), 0);
        Edge.due("neither", x.alike(4, 301), Edge.BAD);
    }

    /** A call that wants a row of bytes, on every shelf: on shelf 0 one of no bytes, for which the want is due. */
    private static void wantsBytes(String call, RungByHeart x, IntToLongFunction asked, int want) {
        x.row(0, 0, 0);
        x.keep(1, -1);
        Edge.range(call + ", shelf", 0, 5, asked, v -> v == 0 ? want : Edge.NOTHING);
        for (int sort = 1; sort <= 4; sort++) {
            x.row(1, sort, 60);
            Edge.due(call + ", sort " + sort, asked.applyAsLong(1), Edge.OTHER);
        }
        int body = x.body(0);
        x.keep(1, body);
        Edge.due(call + ", a stroke", asked.applyAsLong(1), Edge.OTHER);
        x.keep(1, -1);
        Edge.due(call + ", nothing", asked.applyAsLong(1), Edge.NOTHING);
        x.keep(1, body);
        x.keep(2, -1);
    }

    private static void promisedSeen() {
        Edge.says("`int judge(int shelf, int farm)`: JUDGED. BAD, -11, -12; NOT.");
        RungByHeart x = Edge.deafFarms(2);
        wantsBytes("judge", x, v -> x.judge(v, 1), Edge.NOT);
        Edge.range("farm", 0, 1, v -> x.judge(0, v), v -> Edge.NOT);
        Edge.due("BAD ahead of -12", x.judge(1, 2), Edge.BAD);
        Edge.due("BAD ahead of -11", x.judge(2, 2), Edge.BAD);
        Edge.says("`int kinds(int shelf, int farm)`: KINDS: bits. BAD, -11, -12.");
        wantsBytes("kinds", x, v -> x.kinds(v, 1), 63);
        Edge.range("farm", 0, 1, v -> x.kinds(0, v), v -> 63);
        Edge.due("BAD ahead of -12", x.kinds(1, 2), Edge.BAD);
        Edge.due("BAD ahead of -11", x.kinds(2, 2), Edge.BAD);
        Edge.says("`int howFar(int shelf, int farm)`: HOW FAR. BAD, -11, -12; NOT.");
        wantsBytes("howFar", x, v -> x.howFar(v, 1), 0);
        Edge.range("farm", 0, 1, v -> x.howFar(0, v), v -> 0);
        Edge.due("BAD ahead of -12", x.howFar(1, 2), Edge.BAD);
        Edge.due("BAD ahead of -11", x.howFar(2, 2), Edge.BAD);
        Edge.bytes(x, 0, 1);
        Edge.due("by none", x.howFar(0, 0), Edge.NOT);
        Edge.says("`int which(int shelf)`: WHICH FARM: bits. BAD, -11, -12.");
        wantsBytes("which", x, x::which, 3);
    }

    private static void promisedTold() {
        Edge.says("`int asTold(int shelf)`: RUNG AS TOLD. BAD, -11, -12; NOT.");
        RungByHeart x = Edge.deafFarms(2);
        wantsBytes("asTold", x, x::asTold, Edge.NOT);
        Edge.says("`int deaf(int shelf)`: WHO IS DEAF. BAD, -11, -12; NOT.");
        wantsBytes("deaf", x, x::deaf, 0);
        Edge.bytes(x, 0, 2);
        Edge.due("by none", x.deaf(0), Edge.NOT);
    }

    private static void promisedDrawn() {
        Edge.says("`int drawn(int seed, int nm, int what)`: DRAWN (nm: 100 n and m): minutes (what 0), days (1). BAD.");
        RungByHeart x = Edge.withLaw("0");
        for (int nm = -300; nm <= 2300; nm++) {
            x = nm % 200 == 0 ? Edge.withLaw("0") : x;
            int n = nm / 100;
            int m = nm % 100;
            boolean is = nm > 0 && n >= 1 && n <= 20 && m >= 1;
            Edge.due("minutes of " + nm, x.drawn(nm, nm, 0), is ? n : Edge.BAD);
            Edge.due("days of " + nm, x.drawn(nm, nm, 1), !is ? Edge.BAD : m > 1 ? n : 0);
        }
        RungByHeart y = Edge.withLaw("0");
        int[] far = {Edge.MIN, Edge.MIN + 1, -10101, -2001, 10101, 65637, Edge.MAX - 1, Edge.MAX};
        for (int nm : far) {
            Edge.due("nm " + nm, y.drawn(0, nm, 0), Edge.BAD);
        }
        Edge.range("what", 0, 1, v -> y.drawn(Edge.MIN, 2099, v), v -> 20);
        Edge.due("neither", y.drawn(0, 100, 2), Edge.BAD);
        Edge.begins(y, 0);
        Edge.due("nothing is rung", y.drawn(0, 101, 0), 0);
        Edge.due("it has ended", y.drawn(0, 101, 1), 1);
    }
}
