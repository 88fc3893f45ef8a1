/** Edges of signs, farms and their numbers, of what farms hear and do, and of promises 1 to 5. */
final class FarmEdges {
    private static final int[] MOST = {9, 5, 99, 3, 9, 10, 3, 12};

    private FarmEdges() {
    }

    static void run() {
        calls();
        signs();
        farmNumbers();
        far();
        kind();
        at();
        does();
        rests();
        quorum();
        begins();
        hearing();
        deafOnes();
        strangers();
        dogs();
        mourners();
        shams();
        newObject();
        farm();
        farms();
        farmsEnd();
        mend();
        of();
    }

    private static void calls() {
        Edge.says("An object is used for at most 512 calls after it has been made; what later calls answer is free.");
        RungByHeart x = Edge.fresh();
        for (int i = 0; i < 120; i++) {
            Edge.due("feed", x.feed('0'), i + 1);
        }
        Edge.due("call 121", x.law(), -104);
        Edge.due("call 122", x.feed('2'), 1);
        Edge.due("call 123", x.law(), 1);
        for (int call = 124; call < 424; call++) {
            Edge.due("pass", x.pass(), 2);
        }
        for (int call = 424; call < 511; call++) {
            Edge.due("call " + call, x.pass(), Edge.STATE);
        }
        Edge.due("call 511", x.rung(300), 2);
        Edge.due("call 512", x.led(0), 300);
    }

    // ---- the numbers of farms

    private static void signs() {
        Edge.says("SIGNS: 0 none, 1 HATS (noon), 2 KNEES (vespers), 3 LYING (the knell).");
        RungByHeart x = Edge.deafFarms(1);
        Edge.range("signs of", 0, 3, v -> x.signs(0, v), v -> v == 0 ? 1 : 0);
        Edge.range("often", 0, 3, v -> x.often(300, v, 0), v -> v == 0 ? 300 : v == 1 ? 1 : 0);
        Edge.range("longest", 0, 3, v -> x.often(300, v, 1), v -> v == 0 ? 300 : v == 1 ? 1 : 0);
        Edge.range("changesIt", 0, 3, v -> x.changesIt(v, 0), v -> v == 0 ? Edge.NOT : 1);
        Edge.range("does", 0, 3, v -> x.mend(0, 3, v), v -> v == 0 ? 1 : v - 1);
        Edge.range("begins", 0, 3, v -> x.mend(0, 6, v), v -> v == 0 ? 1 : v - 1);
        Edge.range("tell", 0, 3, v -> x.tell(0, v), v -> Math.max(0, v - 1));
        RungByHeart none = Edge.fresh();
        Edge.range("another church's BEGINS", 0, 3, v -> none.church(v, 0, 1), v -> v);
        Edge.range("another church's BEGINS", 0, 3, v -> none.alike(v, 0), v -> v == 1 ? 1 : 0);
    }

    private static void farmNumbers() {
        Edge.says("FARMS 0 .. 9, as they come:");
        for (int many = 0; many <= 10; many++) {
            RungByHeart x = Edge.deafFarms(many);
            x.row(0, 0, 0);
            Edge.range("does", 0, many - 1, v -> x.does(v, 0), v -> 0);
            Edge.range("tell", 0, many - 1, v -> x.tell(v, 0), v -> 0);
            Edge.range("of", 0, many - 1, v -> x.of(v, 1), v -> 1);
            Edge.range("mend", 0, many - 1, v -> x.mend(v, 0, 0), v -> 0);
            Edge.range("judge", 0, many - 1, v -> x.judge(0, v), v -> Edge.NOT);
            Edge.range("kinds", 0, many - 1, v -> x.kinds(0, v), v -> 63);
            Edge.range("howFar", 0, many - 1, v -> x.howFar(0, v), v -> 0);
            for (int v = 0; v <= 12; v++) {
                Edge.due("changesIt " + v, x.changesIt(10 * v, 0), v < many ? Edge.NOT : Edge.BAD);
            }
            Edge.due("farm", x.farm(0, 0), many < 10 ? many : Edge.FULL);
            Edge.due("farms", x.count(0), Math.min(10, many + 1));
        }
    }

    /** What a number of a farm, or one of all, may become; it stays where that is refused. */
    private static void becomes(int what, int first) {
        RungByHeart x = Edge.fresh();
        x.farm(0, 0);
        x.farm(0, 0);
        int number = what < 5 ? 1 : 0;
        Edge.due("at first", x.of(number, what), first);
        int[] was = {first};
        Edge.range("becomes", 0, MOST[what], v -> x.mend(number, what, v), v -> {
            int before = was[0];
            was[0] = v;
            return before;
        });
        Edge.due("the last that was allowed stays", x.of(number, what), MOST[what]);
        Edge.due("to the least", x.mend(number, what, 0), MOST[what]);
        Edge.due("refused above it", x.mend(number, what, MOST[what] + 1), Edge.BAD);
        Edge.due("refused below it", x.mend(number, what, -1), Edge.BAD);
        Edge.due("the least stays", x.of(number, what), 0);
        // What is refused, or was so already, is no change.
        Edge.due("changes", x.count(2), Math.min(40, MOST[what] + (first == 0 ? 1 : 2)));
    }

    private static void far() {
        Edge.says("FAR (0 .. 9 minutes: so much later it hears)");
        becomes(0, 0);
        RungByHeart x = Edge.fresh();
        Edge.range("farm", 0, 9, v -> x.farm(v, 0), v -> v);
        for (int f = 0; f < 10; f++) {
            Edge.due("of", x.of(f, 0), f);
        }
        RungByHeart y = Edge.withLaw("0");
        y.farm(9, 0);
        y.farm(0, 0);
        Edge.due("9 minutes later", y.does(0, 9), 1);
        Edge.due("8 minutes later", y.does(0, 8), 0);
        Edge.due("10 minutes later", y.does(0, 10), 0);
        Edge.due("at once", y.does(1, 0), 1);
        Edge.due("a minute later", y.does(1, 1), 0);
    }

    private static void kind() {
        Edge.says("KIND (0 .. 5; 0 at first)");
        becomes(1, 0);
        RungByHeart x = Edge.fresh();
        Edge.range("farm", 0, 5, v -> x.farm(0, v), v -> v);
        for (int f = 0; f < 6; f++) {
            Edge.due("of", x.of(f, 1), f);
        }
    }

    private static void at() {
        Edge.says("AT (0 .. 99; 0 at first)");
        becomes(2, 0);
        RungByHeart x = Edge.withLaw("0");
        x.farm(0, 3);
        sweep("a dog with AT 0", x, 0, 0, 1);
        Edge.due("AT", x.mend(0, 2, 99), 0);
        Edge.due("99 and 1", x.does(0, 100), 1);
        Edge.due("99 and 1", x.does(0, 99), 0);
        Edge.due("99 and 1", x.does(0, 101), 0);
        x.mend(0, 1, 5);
        Edge.due("a sham from 99 on", x.does(0, 98), 0);
        Edge.due("a sham from 99 on", x.does(0, 99), 1);
    }

    private static void does() {
        Edge.says("DOES (0 .. 3; 1 at first)");
        becomes(3, 1);
        RungByHeart x = Edge.fresh();
        x.farm(0, 5);
        for (int sign = 0; sign <= 3; sign++) {
            x.mend(0, 3, sign);
            Edge.due("does", x.does(0, 0), sign);
        }
    }

    private static void rests() {
        Edge.says("RESTS (0 .. 9; 0 at first).");
        becomes(4, 0);
        RungByHeart x = Edge.withLaw("0");
        x.farm(0, 4);
        Edge.due("no rest", x.does(0, 0), 1);
        x.mend(0, 4, 9);
        Edge.due("9 minutes", x.does(0, 8), 0);
        Edge.due("9 minutes", x.does(0, 9), 1);
    }

    private static void quorum() {
        Edge.says("QUORUM (0 .. 10; 1 at first)");
        becomes(5, 1);
    }

    private static void begins() {
        Edge.says("BEGINS (0 .. 3; 1 at first: what is rung in minute 0).");
        becomes(6, 1);
        RungByHeart x = Edge.withLaw("2");
        Edge.due("at first", x.rung(0), 1);
        for (int sign = 0; sign <= 3; sign++) {
            Edge.begins(x, sign);
            Edge.due("in minute 0", x.rung(0), sign);
            Edge.due("in minute 1", x.rung(1), 2);
            Edge.due("in deed", x.of(0, 11), sign);
        }
    }

    // ---- what farms hear and do

    private static void sweep(String call, RungByHeart x, int farm, int from, int want) {
        for (int minute = from; minute <= 300; minute++) {
            Edge.due(call + " in minute " + minute, x.does(farm, minute), want);
        }
    }

    private static void hearing() {
        Edge.says("What a FARM HEARS in minute m: what was rung in minute m less FAR (0: ahead of minute 0).");
        for (int far = 0; far <= 9; far++) {
            RungByHeart x = Edge.scale();
            Edge.begins(x, 3);
            x.farm(far, 0);
            for (int minute = 0; minute <= 12; minute++) {
                int heard = minute < far ? 0 : minute == far ? 3 : (minute - far) % 4;
                Edge.due("FAR " + far + " in minute " + minute, x.does(0, minute), heard);
                // In deed it hears the same.
                Edge.due("in deed, FAR " + far + " in minute " + minute, x.tell(0, 0), heard);
                x.pass();
            }
            Edge.due("in minute 300", x.does(0, 300), (300 - far) % 4);
        }
    }

    private static void deafOnes() {
        Edge.says("1 DEAF: 0;");
        RungByHeart x = Edge.withLaw("3");
        Edge.begins(x, 3);
        x.farm(0, 1);
        x.mend(0, 3, 3);
        sweep("a deaf one", x, 0, 0, 0);
    }

    private static void strangers() {
        Edge.says("2 STRANGER: what it HEARS, but 1 for 2 and 2 for 1;");
        RungByHeart x = Edge.scale();
        x.farm(0, 2);
        int[] told = {0, 2, 1, 3, 0, 2, 1, 3};
        for (int minute = 0; minute < told.length; minute++) {
            Edge.due("in minute " + minute, x.does(0, minute), told[minute]);
        }
        x.mend(0, 0, 9);
        Edge.due("ahead of minute 0", x.does(0, 8), 0);
    }

    private static void dogs() {
        Edge.says("3 DOG: DOES, if m % (AT and 1) is 0, else 0;");
        int[] places = {0, 1, 2, 49, 98, 99};
        for (int at : places) {
            RungByHeart x = Edge.scale();
            x.farm(3, 3);
            x.mend(0, 3, 2);
            x.mend(0, 2, at);
            for (int minute = 0; minute <= 300; minute++) {
                Edge.due("AT " + at + " in minute " + minute, x.does(0, minute), minute % (at + 1) == 0 ? 2 : 0);
            }
        }
    }

    private static void mourners() {
        Edge.says("4 MOURNER: what it HEARS RESTS minutes later (what was rung in minute m less FAR less RESTS);");
        int[][] ways = {{0, 0}, {0, 9}, {9, 0}, {9, 9}, {4, 3}};
        for (int[] way : ways) {
            RungByHeart x = Edge.scale();
            Edge.begins(x, 3);
            x.farm(way[0], 4);
            x.mend(0, 4, way[1]);
            int later = way[0] + way[1];
            for (int minute = 0; minute <= 20; minute++) {
                int heard = minute < later ? 0 : minute == later ? 3 : (minute - later) % 4;
                Edge.due("FAR, RESTS " + later + " in minute " + minute, x.does(0, minute), heard);
            }
        }
    }

    private static void shams() {
        Edge.says("5 SHAM: DOES from minute AT on, what it HEARS ahead of that.");
        int[] places = {0, 1, 50, 99};
        for (int at : places) {
            RungByHeart x = Edge.scale();
            Edge.begins(x, 3);
            x.farm(2, 5);
            x.mend(0, 3, 0);
            x.mend(0, 2, at);
            for (int minute = 0; minute <= 104; minute++) {
                int heard = minute < 2 ? 0 : minute == 2 ? 3 : (minute - 2) % 4;
                Edge.due("AT " + at + " in minute " + minute, x.does(0, minute), minute < at ? heard : 0);
            }
        }
    }

    // ---- promises 1 to 5

    private static void newObject() {
        Edge.says("`RungByHeart()`: A ringer, empty fields.");
        RungByHeart x = Edge.fresh();
        for (int what = 0; what < 5; what++) {
            Edge.due("count", x.count(what), 0);
            Edge.due("led", x.led(what), what == 4 ? 1 : 0);
        }
        for (int shelf = 0; shelf < 6; shelf++) {
            Edge.due("a shelf", x.put(shelf, 0, 1), Edge.NOTHING);
            Edge.due("a shelf", x.taken(shelf, 0), Edge.NOTHING);
        }
        Edge.due("farm 0", x.of(0, 0), Edge.BAD);
        Edge.due("rung", x.rung(0), 1);
        Edge.due("no farms, no text", x.often(300, 0, 1), 300);
        Edge.due("spare", x.spare(0), Edge.NOT);
        Edge.due("whom", x.byWhom(300), 0);
        Edge.due("send", x.send(300, 0), 0);
        Edge.due("ends", x.ends(), 1);
        Edge.due("act", x.act(0, 0, 5), 0);
        Edge.due("trace", x.trace(0), Edge.BAD);
        Edge.due("undo", x.undo(), Edge.STATE);
        Edge.due("redo", x.redo(), Edge.STATE);
        Edge.due("back", x.back(), Edge.STATE);
    }

    private static void farm() {
        Edge.says("`int farm(int far, int kind)`: A FARM: its number. BAD, FULL: 10.");
        RungByHeart x = Edge.fresh();
        int[] offFar = {Edge.MIN, -256, -1, 10, 256, Edge.MAX};
        int[] offKind = {Edge.MIN, -256, -1, 6, 256, Edge.MAX};
        for (int many = 0; many <= 10; many++) {
            for (int v : offFar) {
                Edge.due("FAR " + v, x.farm(v, 0), Edge.BAD);
            }
            for (int v : offKind) {
                Edge.due("KIND " + v, x.farm(0, v), Edge.BAD);
            }
            Edge.due("farms", x.count(0), many);
            Edge.due("both at the most", x.farm(9, 5), many < 10 ? many : Edge.FULL);
        }
        Edge.due("the twelfth", x.farm(0, 0), Edge.FULL);
        Edge.due("farms", x.count(0), 10);
        Edge.due("the tenth stays", x.of(9, 0) * 10 + x.of(9, 1), 95);
        Edge.due("an eleventh", x.of(10, 0), Edge.BAD);
    }

    private static void farms() {
        Edge.says("`int farms(int shelf, int i, int n)`: FARMS FROM A ROW on a SHELF, from place i on, n (1 .. 10) of them: "
            + "how many came. BAD, -12 (no ROW of bytes; a SHELF that holds nothing is missing).");
        RungByHeart missing = Edge.fresh();
        Edge.range("from shelf", 0, 5, v -> missing.farms(v, 0, 1), v -> 0);
        Edge.range("n", 1, 10, v -> missing.farms(0, 0, v), v -> 0);
        missing.body(0);
        missing.keep(1, 0);
        Edge.range("from a stroke, n", 1, 10, v -> missing.farms(1, 0, v), v -> Edge.OTHER);
        Edge.due("from a stroke, a place below 0", missing.farms(1, -1, 1), Edge.OTHER);
        for (int sort = 1; sort <= 4; sort++) {
            missing.row(2, sort, 60);
            Edge.range("from sort " + sort + ", n", 1, 10, v -> missing.farms(2, 0, v), v -> Edge.OTHER);
        }
        Edge.due("none came", missing.count(0), 0);
        for (int n = 1; n <= 10; n++) {
            RungByHeart x = Edge.fresh();
            x.row(3, 0, 60);
            Edge.due("n " + n, x.farms(3, 0, n), n);
            Edge.due("farms", x.count(0), n);
        }
    }

    /** By threes 0 0 at, so that each farm tells from which three it came. */
    private static void farmsEnd() {
        Edge.says("FARMS FROM A ROW of bytes, from a place on: by threes FAR, KIND, AT: n of them; it ends where the row is "
            + "missing, ends (within a three, too), one is not so, or FARMS are FULL: those ahead came.");
        for (int size = 0; size <= 33; size++) {
            for (int i = -3; i <= size + 3; i += i < 2 || i > size - 5 ? 1 : 3) {
                RungByHeart x = Edge.fresh();
                x.row(0, 0, size);
                int came = i < 0 ? 0 : Math.min(10, Math.max(0, size - i) / 3);
                Edge.due(size + " bytes from " + i, x.farms(0, i, 10), came);
                Edge.due("farms", x.count(0), came);
            }
        }
        int[] far = {Edge.MIN, Edge.MIN + 1, -61, Edge.MAX - 2, Edge.MAX - 1, Edge.MAX, 65536};
        for (int i : far) {
            RungByHeart x = Edge.fresh();
            x.row(0, 0, 60);
            Edge.due("60 bytes from " + i, x.farms(0, i, 10), 0);
        }
        notSo();
        fullFields();
    }

    private static void notSo() {
        int[] most = {9, 5, 99};
        for (int part = 0; part < 3; part++) {
            for (int v = -128; v <= 127; v++) {
                RungByHeart x = Edge.fresh();
                Edge.bytes(x, 0, 1, 1, 1, 2, 2, 2, 3, 3, 3);
                x.put(0, 3 + part, v);
                boolean so = v >= 0 && v <= most[part];
                Edge.due("part " + part + " is " + v, x.farms(0, 0, 3), so ? 3 : 1);
                Edge.due("the one ahead came", x.of(0, part), 1);
                Edge.due("it came", x.of(1, part), so ? v : Edge.BAD);
            }
        }
        RungByHeart x = Edge.fresh();
        Edge.bytes(x, 0, 256, 261, 355);
        Edge.due("bytes keep their lowest bits", x.farms(0, 0, 1), 1);
        Edge.due("FAR, KIND, AT", x.of(0, 0) * 1000 + x.of(0, 1) * 100 + x.of(0, 2), 599);
        Edge.due("DOES", x.of(0, 3), 1);
        Edge.due("RESTS", x.of(0, 4), 0);
    }

    private static void fullFields() {
        for (int ahead = 0; ahead <= 10; ahead++) {
            RungByHeart x = Edge.deafFarms(ahead);
            Edge.bytes(x, 0, 1, 0, 11, 2, 0, 12, 3, 0, 13);
            int came = Math.min(3, 10 - ahead);
            Edge.due("behind " + ahead, x.farms(0, 0, 3), came);
            Edge.due("farms", x.count(0), ahead + came);
            for (int k = 0; k < came; k++) {
                Edge.due("those ahead came", x.of(ahead + k, 2), 11 + k);
            }
        }
    }

    private static void mend() {
        Edge.says("FAR (what 0), KIND (1), AT (2), DOES (3), RESTS (4) of a FARM, QUORUM (5), BEGINS (6), RAINS "
            + "(7; number 0 for these) becomes v: what it was. BAD.");
        RungByHeart x = Edge.deafFarms(3);
        Edge.range("what", 0, 7, v -> x.mend(0, v, 0), v -> v == 1 || v == 3 || v == 5 || v == 6 ? 1 : 0);
        Edge.due("10 is of of() alone", x.mend(0, 10, 0), Edge.BAD);
        Edge.due("11 is of of() alone", x.mend(0, 11, 0), Edge.BAD);
        for (int what = 0; what < 8; what++) {
            int w = what;
            Edge.range("number for " + what, 0, what < 5 ? 2 : 0, v -> x.mend(v, w, 0),
                v -> v > 0 && (w == 1 || w == 3) ? 1 : 0);
        }
        RungByHeart none = Edge.fresh();
        for (int what = 0; what < 5; what++) {
            Edge.due("no farm", none.mend(0, what, 0), Edge.BAD);
        }
        for (int what = 5; what < 8; what++) {
            Edge.due("no farm wanted", none.mend(0, what, 0), what == 7 ? 0 : 1);
        }
        Edge.due("changes", none.count(2), 2);
        eachNumberItsOwn();
    }

    private static void eachNumberItsOwn() {
        RungByHeart x = Edge.deafFarms(10);
        for (int f = 0; f < 10; f++) {
            for (int what = 0; what < 5; what++) {
                x.mend(f, what, (f + what) % 4);
            }
        }
        x.mend(0, 5, 9);
        x.mend(0, 6, 3);
        x.mend(0, 7, 11);
        for (int f = 0; f < 10; f++) {
            for (int what = 0; what < 5; what++) {
                Edge.due("number " + what + " of farm " + f, x.of(f, what), (f + what) % 4);
            }
        }
        Edge.due("those of all", x.of(0, 5) * 1000 + x.of(0, 6) * 100 + x.of(0, 7), 9311);
    }

    private static void of() {
        Edge.says("`int of(int number, int what)`: As of mend() (0 to 7); number 0: 10 NOW; 11 what is rung NOW. BAD.");
        RungByHeart x = Edge.deafFarms(2);
        x.pass();
        for (int what = -3; what <= 14; what++) {
            for (int number = -1; number <= 3; number++) {
                boolean farms = what >= 0 && what <= 4 && (number == 0 || number == 1);
                boolean all = number == 0 && (what >= 5 && what <= 7 || what == 10 || what == 11);
                int want = what == 1 || what == 3 || what == 5 || what == 6 || what == 10 ? 1 : 0;
                Edge.due("of(" + number + ", " + what + ")", x.of(number, what), farms || all ? want : Edge.BAD);
            }
        }
        int[] off = {Edge.MIN, -256, 256, Edge.MAX};
        for (int v : off) {
            Edge.due("of(0, " + v + ")", x.of(0, v), Edge.BAD);
            Edge.due("of(" + v + ", 0)", x.of(v, 0), Edge.BAD);
            Edge.due("of(" + v + ", 10)", x.of(v, 10), Edge.BAD);
        }
    }
}
