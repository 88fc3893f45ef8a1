/** Edges of days in thought, and of promises 8 to 18. */
final class DayEdges {
    private DayEdges() {
    }

    static void run() {
        day();
        round();
        ends();
        often();
        late();
        spare();
        send();
        changes();
        whom();
        promisedMinutes();
        promisedRound();
        promisedEnds();
        promisedOften();
        promisedLate();
        promisedSpare();
        promisedSend();
        promisedChanges();
    }

    /** A true farm hears at once what is rung: always 1. */
    private static RungByHeart always() {
        RungByHeart x = Edge.fresh();
        x.farm(0, 0);
        return x;
    }

    private static void day() {
        Edge.says("A DAY in thought, minutes 0 .. n (n 0 .. 300): RUNG in a minute; what a FARM DOES in it; "
            + "how many do a SIGN in it.");
        RungByHeart x = always();
        Edge.range("rung", 0, 300, x::rung, v -> 1);
        RungByHeart y = always();
        Edge.range("does", 0, 300, v -> y.does(0, v), v -> 1);
        RungByHeart z = always();
        Edge.range("signs", 0, 300, v -> z.signs(v, 1), v -> 1);
        RungByHeart scale = Edge.scale();
        scale.farm(0, 0);
        scale.farm(9, 0);
        for (int minute = 0; minute <= 300; minute += minute < 12 || minute > 290 ? 1 : 7) {
            int sign = minute % 4;
            int later = minute < 9 ? 0 : (minute - 9) % 4;
            Edge.due("rung in " + minute, scale.rung(minute), sign);
            Edge.due("farm 0 in " + minute, scale.does(0, minute), sign);
            Edge.due("farm 1 in " + minute, scale.does(1, minute), later);
            Edge.due("signs in " + minute, scale.signs(minute, sign), sign == later ? 2 : 1);
        }
    }

    // ---- it comes round, it ends

    private static void around(String text, int begins, int from, int length) {
        RungByHeart x = Edge.withLaw(text);
        Edge.begins(x, begins);
        Edge.due("from, by \"" + text + "\"", x.round(0), from);
        Edge.due("L, by \"" + text + "\"", x.round(1), length);
    }

    private static void round() {
        Edge.says("ROUND: the first minute from which on all that is rung is told anew again and again, within 300 (for some "
            + "length L of 1 .. 60 what is rung in minutes from it to 300 less L is as L minutes later; it is no more than "
            + "300 less 2 L): that minute; the least such L for it; NOT.");
        for (int length = 1; length <= 60; length++) {
            around("m%" + length + "=0", 1, 0, length);
            // What is rung three times from 300 less 2 L on, L minutes apart, comes round; a minute later it does not.
            int last = 300 - 2 * length;
            around("m<" + last + "?3;(m-" + last + ")%" + length + "=0", 3, last, length);
            boolean silent = length > 3;
            around("m<" + (last + 1) + "?3;(m-" + (last + 1) + ")%" + length + "=0", 3,
                silent ? 302 - length : Edge.NOT, silent ? 1 : Edge.NOT);
        }
        around("m%61=0", 1, 245, 1);
        around("m%61=56", 0, Edge.NOT, Edge.NOT);
        around("m=297?1;0", 0, 298, 1);
        around("m=298?1;0", 0, Edge.NOT, Edge.NOT);
        around("m=299?1;0", 0, Edge.NOT, Edge.NOT);
        around("m=300?1;0", 0, Edge.NOT, Edge.NOT);
        around("0", 0, 0, 1);
        around("0", 1, 1, 1);
        around("2", 2, 0, 1);
        around("m<100?m%3;m%6/2", 0, 100, 6);
    }

    private static void ends() {
        Edge.says("ENDS: the first minute from which on nothing is rung to 300; NOT.");
        for (int minute = 1; minute <= 300; minute++) {
            RungByHeart x = Edge.withLaw("m<" + minute);
            Edge.due("rung ahead of " + minute, x.ends(), minute);
        }
        Edge.due("rung to 300", Edge.withLaw("m<301").ends(), Edge.NOT);
        Edge.due("rung in 300 alone", Edge.withLaw("m=300").ends(), Edge.NOT);
        Edge.due("rung in 299 the last time", Edge.withLaw("m=299").ends(), 300);
        Edge.due("rung again", Edge.withLaw("m=5|m=77").ends(), 78);
        RungByHeart x = Edge.withLaw("0");
        Edge.due("BEGINS alone", x.ends(), 1);
        Edge.begins(x, 0);
        Edge.due("nothing is ever rung", x.ends(), 0);
        Edge.lawOf(x, "m=300*3");
        Edge.due("nothing is ever rung", x.ends(), 0);
    }

    // ---- how often, how late

    private static void often() {
        Edge.says("HOW OFTEN a SIGN is rung in minutes 0 .. n; the LONGEST time it is rung without a break;");
        RungByHeart scale = Edge.scale();
        for (int n = 0; n <= 20; n++) {
            for (int sign = 0; sign <= 3; sign++) {
                Edge.due(sign + " to " + n, scale.often(n, sign, 0), (n + 4 - sign) / 4);
                Edge.due("longest " + sign + " to " + n, scale.often(n, sign, 1), n < sign ? 0 : 1);
            }
        }
        for (int sign = 0; sign <= 3; sign++) {
            Edge.due(sign + " to 300", scale.often(300, sign, 0), sign == 0 ? 76 : 75);
        }
        // 1 1 1 0 1 1 1 1 0 0 ..: the longest may be the first, the last, or be cut off by n.
        RungByHeart x = Edge.withLaw("m=3|m>7?0;1");
        int[] longest = {1, 2, 3, 3, 3, 3, 3, 4, 4, 4};
        for (int n = 0; n < longest.length; n++) {
            Edge.due("longest to " + n, x.often(n, 1, 1), longest[n]);
        }
        Edge.due("the longest to the end", x.often(300, 0, 1), 293);
        Edge.due("never", x.often(300, 3, 1), 0);
    }

    private static void late() {
        Edge.says("LATE: a ROW of bytes on a SHELF tells what should be rung (byte i in minute i; those that lack: 0; "
            + "a byte that is no SIGN: never right): how many of the minutes 0 .. n are otherwise; the first (NOT).");
        for (int size = 0; size <= 60; size++) {
            RungByHeart x = Edge.withLaw("1");
            x.row(0, 0, size);
            for (int i = 0; i < size; i++) {
                x.put(0, i, 1);
            }
            int[] ns = {0, Math.max(0, size - 2), Math.max(0, size - 1), size, size + 1, 60, 299, 300};
            for (int n : ns) {
                Edge.due(size + " bytes to " + n, x.late(0, n, 0), Math.max(0, n + 1 - size));
                Edge.due(size + " bytes, the first to " + n, x.late(0, n, 1), n >= size ? size : Edge.NOT);
            }
            Edge.lawOf(x, "m<" + size);
            Edge.begins(x, size > 0 ? 1 : 0);
            Edge.due("0 for those that lack", x.late(0, 300, 0), 0);
            Edge.due("0 for those that lack", x.late(0, 300, 1), Edge.NOT);
        }
        RungByHeart x = Edge.scale();
        Edge.bytes(x, 0, 0, 1, 2, 3, 0, 1, 2, 3);
        for (int v = -128; v <= 127; v++) {
            int place = v & 7;
            x.put(0, place, v);
            boolean so = v == place % 4;
            Edge.due("byte " + v, x.late(0, 7, 0), so ? 0 : 1);
            if (v % 8 == 0) {
                Edge.due("the first", x.late(0, 7, 1), so ? Edge.NOT : place);
            }
            x = v % 32 == 0 ? Edge.scale() : x;
            Edge.bytes(x, 0, 0, 1, 2, 3, 0, 1, 2, 3);
        }
    }

    // ---- spare, send

    private static void spare() {
        Edge.says("SPARE: without which FARM (DEAF instead) ENDS is earliest (of like ones the least; NOT to end counts as 301): "
            + "it; that minute (NOT).");
        for (int ends = 1; ends <= 301; ends += ends < 3 || ends > 296 ? 1 : 49) {
            // Without farm 1 it ends in that minute, without any other it does not.
            RungByHeart x = Edge.withLaw("m<" + ends + "|a");
            x.farm(0, 1);
            Edge.sham(x, 1);
            x.farm(0, 1);
            Edge.due("which, " + ends, x.spare(0), ends == 301 ? 0 : 1);
            Edge.due("when, " + ends, x.spare(1), ends == 301 ? Edge.NOT : ends);
        }
        RungByHeart none = Edge.fresh();
        Edge.due("no farms", none.spare(0), Edge.NOT);
        Edge.due("no farms", none.spare(1), Edge.NOT);
        RungByHeart like = Edge.withLaw("a>1");
        Edge.begins(like, 0);
        like.farm(0, 1);
        Edge.sham(like, 1);
        Edge.sham(like, 1);
        Edge.due("of like ones the least", like.spare(0), 1);
        Edge.due("from minute 0 on", like.spare(1), 0);
        RungByHeart last = Edge.withLaw("b");
        for (int f = 0; f < 9; f++) {
            last.farm(0, 1);
        }
        Edge.sham(last, 2);
        Edge.due("the tenth", last.spare(0), 9);
        Edge.due("the tenth", last.spare(1), 1);
        Edge.due("it is as it was", last.of(9, 1), 5);
        Edge.due("it rings on", last.ends(), Edge.NOT);
    }

    private static void send() {
        Edge.says("SEND: the fewest FARMS (0 .. 3) that should be SHAMS from minute 0 on, each with one DOES 0, so that it ENDS "
            + "by minute m (0 .. 300): how many; which (bits; of like ones the least); NOT.");
        for (int many = 0; many <= 10; many++) {
            RungByHeart x = Edge.withLaw("a>0");
            for (int f = 0; f < 10 - many; f++) {
                x.farm(0, 1);
            }
            for (int f = 0; f < many; f++) {
                Edge.sham(x, 1);
            }
            Edge.due(many + " to send", x.send(1, 0), many <= 3 ? many : Edge.NOT);
            Edge.due("which of " + many, x.send(1, 1), many <= 3 ? 1024 - (1 << 10 - many) : Edge.NOT);
            Edge.due("to 300", x.send(300, 0), many <= 3 ? many : Edge.NOT);
            Edge.due("minute 0 is rung", x.send(0, 0), Edge.NOT);
            Edge.begins(x, 0);
            Edge.due("nothing in minute 0", x.send(0, 0), many <= 3 ? many : Edge.NOT);
        }
        for (int ends = 1; ends <= 300; ends++) {
            RungByHeart x = Edge.withLaw("m<" + ends);
            x.farm(0, 0);
            Edge.due("by " + ends, x.send(ends, 0), 0);
            Edge.due("by " + ends, x.send(ends, 1), 0);
            Edge.due("by " + (ends - 1), x.send(ends - 1, 0), Edge.NOT);
            Edge.due("by " + (ends - 1), x.send(ends - 1, 1), Edge.NOT);
        }
        Edge.due("never", Edge.withLaw("m<301").send(300, 0), Edge.NOT);
        sendWhich();
    }

    private static void sendWhich() {
        RungByHeart x = Edge.withLaw("a&b");
        Edge.sham(x, 1);
        Edge.sham(x, 2);
        Edge.sham(x, 2);
        Edge.sham(x, 1);
        Edge.due("two of four", x.send(1, 0), 2);
        Edge.due("1 and 2 are less than 0 and 3", x.send(1, 1), 6);
        Edge.lawOf(x, "(a>1)+(b>1)>1");
        Edge.due("the first is as good as any", x.send(1, 1), 1);
        Edge.lawOf(x, "b>1");
        Edge.due("one of the 2s", x.send(1, 1), 2);
        Edge.due("as it was", x.of(1, 3), 2);
        // One who comes too late is sent from minute 0 on.
        RungByHeart y = Edge.withLaw("a>0&m>90");
        y.farm(0, 5);
        y.mend(0, 2, 90);
        Edge.begins(y, 0);
        Edge.due("sent", y.send(300, 0), 1);
        Edge.due("sent ahead", y.send(0, 0), 1);
    }

    // ---- changes, by whom

    private static void changes() {
        Edge.says("CHANGES: if a FARM does another SIGN in one minute alone, the first minute in which something else is rung "
            + "(within 300); NOT.");
        RungByHeart x = Edge.withLaw("a");
        x.farm(0, 1);
        for (int minute = 0; minute <= 300; minute++) {
            Edge.due("in " + minute, x.changesIt(1, minute), minute < 300 ? minute + 1 : Edge.NOT);
        }
        Edge.due("what it does", x.changesIt(0, 5), Edge.NOT);
        Edge.due("what it does, in 299", x.changesIt(0, 299), Edge.NOT);
        Edge.due("another that changes nothing", x.changesIt(2, 5), Edge.NOT);
        // What it did is done by one less, what it does instead by one more.
        RungByHeart y = Edge.withLaw("a=2&b=1");
        Edge.begins(y, 0);
        Edge.sham(y, 1);
        Edge.sham(y, 1);
        Edge.sham(y, 1);
        Edge.due("two do 1 and one does 2", y.changesIt(2, 5), 6);
        Edge.due("two do 1", y.changesIt(0, 5), Edge.NOT);
        Edge.lawOf(y, "a<3&b=0&c=0");
        Edge.due("two do 1", y.changesIt(20, 5), 6);
        Edge.due("three do 1", y.changesIt(21, 5), Edge.NOT);
        Edge.lawOf(y, "a+b+c<3");
        Edge.due("three do something", y.changesIt(13, 5), Edge.NOT);
        Edge.due("two do something", y.changesIt(10, 299), 300);
        // Held within 3 the same is rung.
        Edge.lawOf(x, "3+a");
        Edge.due("held", x.changesIt(1, 5), Edge.NOT);
        Edge.lawOf(x, "a*(m>299)");
        Edge.due("300 alone", x.changesIt(1, 298), Edge.NOT);
        Edge.due("300 alone", x.changesIt(1, 299), 300);
    }

    private static void whom() {
        Edge.says("BY WHOM: which FARMS (bits), each by itself DEAF, change what is rung in a minute.");
        for (int many = 0; many <= 10; many++) {
            RungByHeart x = Edge.withLaw("a+b+c>" + (many - 1));
            for (int f = 0; f < many; f++) {
                Edge.sham(x, 1 + f % 3);
            }
            Edge.due("all of " + many, x.byWhom(1), (1 << many) - 1);
            Edge.due("all of " + many, x.byWhom(300), (1 << many) - 1);
            Edge.due("minute 0 is BEGINS", x.byWhom(0), 0);
            Edge.lawOf(x, "a+b+c>" + (many - 2));
            Edge.due("none of " + many + " by itself", x.byWhom(1), 0);
        }
    }

    // ---- promises 8 to 18

    private static void promisedMinutes() {
        Edge.says("`int rung(int minute)`: RUNG in a minute. BAD.");
        RungByHeart rung = Edge.withLaw("2");
        Edge.range("rung", 0, 300, rung::rung, v -> v == 0 ? 1 : 2);
        Edge.says("`int does(int farm, int minute)`: What a FARM DOES in a minute. BAD.");
        RungByHeart does = Edge.withLaw("2");
        does.farm(0, 0);
        Edge.range("does", 0, 300, v -> does.does(0, v), v -> v == 0 ? 1 : 2);
        Edge.range("farm", 0, 0, v -> does.does(v, 0), v -> 1);
        Edge.due("neither", does.does(1, 301), Edge.BAD);
        Edge.says("`int signs(int minute, int sign)`: How many do a SIGN (0 .. 3) in a minute. BAD.");
        RungByHeart signs = Edge.withLaw("2");
        signs.farm(0, 0);
        Edge.range("signs", 0, 300, v -> signs.signs(v, 2), v -> v == 0 ? 0 : 1);
        Edge.range("sign", 0, 3, v -> signs.signs(300, v), v -> v == 2 ? 1 : 0);
        Edge.due("neither", signs.signs(301, 4), Edge.BAD);
        Edge.says("`int byWhom(int minute)`: BY WHOM. BAD.");
        RungByHeart whom = always();
        Edge.range("byWhom", 0, 300, whom::byWhom, v -> v == 0 ? 0 : 1);
    }

    private static void promisedRound() {
        Edge.says("`int round(int what)`: ROUND: from where (what 0), L (1). BAD; NOT.");
        RungByHeart x = Edge.scale();
        Edge.range("round", 0, 1, x::round, v -> v == 0 ? 0 : 4);
        RungByHeart never = Edge.withLaw("m=300");
        Edge.range("round", 0, 1, never::round, v -> Edge.NOT);
    }

    private static void promisedEnds() {
        Edge.says("`int ends()`: ENDS. NOT.");
        Edge.due("an empty field", Edge.fresh().ends(), 1);
        Edge.due("rung on and on", always().ends(), Edge.NOT);
    }

    private static void promisedOften() {
        Edge.says("`int often(int n, int sign, int what)`: HOW OFTEN a SIGN is rung (what 0), the LONGEST (1) in minutes "
            + "0 .. n. BAD.");
        RungByHeart x = always();
        Edge.range("often to", 0, 300, v -> x.often(v, 1, 0), v -> v + 1);
        RungByHeart y = always();
        Edge.range("longest to", 0, 300, v -> y.often(v, 1, 1), v -> v + 1);
        RungByHeart z = always();
        Edge.range("sign", 0, 3, v -> z.often(9, v, 0), v -> v == 1 ? 10 : 0);
        Edge.range("what", 0, 1, v -> z.often(9, 1, v), v -> 10);
        Edge.due("none of them", z.often(301, 4, 2), Edge.BAD);
    }

    private static void promisedLate() {
        Edge.says("`int late(int shelf, int n, int what)`: LATE: how many (what 0), the first (1; NOT). BAD, -11, -12 "
            + "(no ROW of bytes).");
        RungByHeart x = always();
        x.row(0, 0, 0);
        Edge.range("late to", 0, 300, v -> x.late(0, v, 0), v -> v + 1);
        RungByHeart y = always();
        y.row(0, 0, 60);
        Edge.range("what", 0, 1, v -> y.late(0, 9, v), v -> v == 0 ? 10 : 0);
        y.mend(0, 6, 0);
        Edge.range("what", 0, 1, v -> y.late(0, 9, v), v -> v == 0 ? 0 : Edge.NOT);
        Edge.range("shelf", 0, 5, v -> y.late(v, 0, 0), v -> v == 0 ? 0 : Edge.NOTHING);
        for (int sort = 1; sort <= 4; sort++) {
            y.row(1, sort, 3);
            Edge.due("sort " + sort, y.late(1, 0, 0), Edge.OTHER);
        }
        y.body(0);
        y.keep(1, 0);
        Edge.due("a stroke", y.late(1, 0, 1), Edge.OTHER);
        Edge.due("BAD ahead of -12", y.late(1, 301, 0), Edge.BAD);
        Edge.due("BAD ahead of -11", y.late(2, 0, 2), Edge.BAD);
    }

    private static void promisedSpare() {
        Edge.says("`int spare(int what)`: SPARE: the FARM (what 0; NOT: no FARMS), that minute (1; NOT). BAD.");
        RungByHeart none = Edge.fresh();
        Edge.range("no farms", 0, 1, none::spare, v -> Edge.NOT);
        RungByHeart one = always();
        Edge.range("one farm", 0, 1, one::spare, v -> v == 0 ? 0 : 1);
        Edge.lawOf(one, "1");
        Edge.range("it rings on", 0, 1, one::spare, v -> v == 0 ? 0 : Edge.NOT);
    }

    private static void promisedSend() {
        Edge.says("`int send(int m, int what)`: SEND: how many (what 0), which (1). BAD; NOT.");
        RungByHeart x = always();
        Edge.range("by minute", 0, 300, v -> x.send(v, 0), v -> v == 0 ? Edge.NOT : 1);
        Edge.range("what", 0, 1, v -> x.send(1, v), v -> 1);
        Edge.range("what", 0, 1, v -> x.send(0, v), v -> Edge.NOT);
        Edge.due("neither", x.send(301, 2), Edge.BAD);
    }

    private static void promisedChanges() {
        Edge.says("`int changesIt(int fs, int minute)`: CHANGES (fs: 10 times the FARM, and the SIGN). BAD; NOT.");
        RungByHeart x = Edge.deafFarms(10);
        for (int fs = -15; fs <= 115; fs++) {
            boolean is = fs >= 0 && fs < 100 && fs % 10 <= 3;
            Edge.due("fs " + fs, x.changesIt(fs, 0), !is ? Edge.BAD : fs % 10 == 0 ? Edge.NOT : 1);
        }
        int[] far = {Edge.MIN, Edge.MIN + 1, Edge.MIN + 8, -256, 1001, 65536, Edge.MAX - 7, Edge.MAX};
        for (int fs : far) {
            Edge.due("fs " + fs, x.changesIt(fs, 0), Edge.BAD);
        }
        RungByHeart y = Edge.deafFarms(1);
        Edge.range("minute", 0, 300, v -> y.changesIt(1, v), v -> v < 300 ? v + 1 : Edge.NOT);
        RungByHeart none = Edge.fresh();
        Edge.range("no farm, fs", 0, -1, v -> none.changesIt(v, 0), v -> 0);
    }
}
