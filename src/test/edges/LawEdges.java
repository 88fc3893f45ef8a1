/** Edges of the tape, of the text and of what it gives, and of promises 6 and 7. */
final class LawEdges {
    private static final String LOWEST = "(0-9999*9999*21-9999*4790-8417)";
    private static final String HIGHEST = "(9999*9999*21+9999*4790+8416)";
    private static final String DIGITS = "0123456789", NAMES = "abcrgm", OPENING = "!-(";
    private static final String JOINING = "+-*/%&|", COMPARING = "<=>";

    private LawEdges() {
    }

    static void run() {
        feed();
        law();
        tape();
        lines();
        lineOfTwo();
        joined();
        oneComparison();
        sums();
        operands();
        blanks();
        names();
        open();
        wraps();
        division();
        byNothing();
        truth();
        allWorkedOut();
        firstLine();
        fault();
        tooEarly();
        held();
        withoutText();
    }

    /** By the text alone, without farms: what is rung in minute 1. */
    private static void gives(String text, int want) {
        Edge.due("rung(1) by \"" + text + "\"", Edge.withLaw(text).rung(1), want);
    }

    private static void equal(String left, String right) {
        gives("(" + left + ")=(" + right + ")", 1);
    }

    private static void faulty(String text, int place) {
        RungByHeart x = Edge.fresh();
        Edge.due("law \"" + text + "\"", Edge.lawOf(x, text), -100 - place);
        Edge.due("bytes behind \"" + text + "\"", x.count(1), 0);
    }

    private static void right(String text) {
        Edge.withLaw(text);
    }

    private static String times(String part, int many) {
        return part.repeat(many);
    }

    // ---- promises 6 and 7

    private static void feed() {
        Edge.says("`int feed(int letter)`: A byte (0 .. 255) comes to THE TAPE: how many it has. BAD, FULL (120).");
        int[] off = {Edge.MIN, -256, -1, 256, 257, 511, 65536, Edge.MAX};
        RungByHeart x = Edge.fresh();
        for (int many = 0; many <= 120; many++) {
            int v = many % off.length;
            Edge.due("feed " + off[v], x.feed(off[v]), Edge.BAD);
            Edge.due("bytes", x.count(1), many);
            Edge.due("feed the next", x.feed(many * 2), many < 120 ? many + 1 : Edge.FULL);
        }
        Edge.due("feed behind the last", x.feed('1'), Edge.FULL);
        Edge.due("bytes", x.count(1), 120);
        for (int from = 0; from < 256; from += 64) {
            RungByHeart y = Edge.fresh();
            for (int letter = from; letter < from + 64; letter++) {
                Edge.due("feed " + letter, y.feed(letter), letter - from + 1);
            }
        }
        // A byte refused is none of the text.
        RungByHeart z = Edge.fresh();
        Edge.lawOf(z, "");
        z.feed('2');
        z.feed('1' + 256);
        z.feed('1' - 256);
        Edge.due("law", z.law(), 1);
        Edge.due("rung", z.rung(1), 2);
    }

    private static void law() {
        Edge.says("`int law()`: THE TAPE becomes THE LAW: 1; -100 less its FAULT; THE TAPE is empty then.");
        RungByHeart x = Edge.fresh();
        x.farm(0, 0);
        Edge.due("an empty tape", x.law(), -100);
        Edge.due("still without a text", x.rung(1), 1);
        Edge.due("a text", Edge.lawOf(x, "2"), 1);
        Edge.due("the tape is empty then", x.count(1), 0);
        Edge.due("it counts", x.rung(1), 2);
        Edge.due("an empty tape", x.law(), -100);
        Edge.due("the text stays", x.rung(1), 2);
        Edge.due("a fault", Edge.lawOf(x, "3;"), -102);
        Edge.due("the tape is empty then", x.count(1), 0);
        Edge.due("the text stays", x.rung(1), 2);
        Edge.due("a tape of 120 bytes", Edge.lawOf(x, times("3+", 60)), -220);
        Edge.due("the tape is empty then", x.feed('3'), 1);
        Edge.due("the next text", x.law(), 1);
        Edge.due("it counts", x.rung(1), 3);
    }

    private static void tape() {
        Edge.says("THE LAW is a TEXT by THE TAPE (at most 120 bytes):");
        RungByHeart x = Edge.fresh();
        String most = "2" + times("+0", 59);
        Edge.due("119 bytes", Edge.lawOf(x, most), 1);
        Edge.due("rung", x.rung(1), 2);
        RungByHeart y = Edge.fresh();
        String full = "!0" + times("+0", 58) + "+2";
        Edge.due("120 bytes", Edge.lawOf(y, full), 1);
        Edge.due("the last byte counts", y.rung(1), 3);
        RungByHeart z = Edge.fresh();
        for (int i = 0; i < 120; i++) {
            z.feed(full.charAt(i));
        }
        Edge.due("a 121st", z.feed('0'), Edge.FULL);
        Edge.due("the text is that of 120 bytes", z.law(), 1);
        Edge.due("rung", z.rung(1), 3);
        // Every byte a sign of its own that waits for an operand behind it.
        gives(times("-!", 3) + "1" + times("*1", 56), 0);
        gives("1" + times("|0", 59), 1);
        gives("(((((1+" + times("1*1+", 26) + "1)))))", 3);
    }

    private static void lines() {
        Edge.says("LINES, one or more, parted by ; .");
        faulty("", 0);
        faulty(";", 0);
        faulty("1;", 2);
        faulty(";1", 0);
        faulty("1;;1", 2);
        faulty("1;1;", 4);
        for (int many = 1; many <= 60; many++) {
            RungByHeart x = Edge.fresh();
            Edge.due(many + " lines", Edge.lawOf(x, "2" + times(";1", many - 1)), 1);
            Edge.due("the first", x.rung(1), 2);
            faulty("2" + times(";1", many - 1) + ";", 2 * many);
        }
        for (int many = 1; many <= 29; many++) {
            gives(times("0?1;", many) + "3", 3);
        }
    }

    private static void lineOfTwo() {
        Edge.says("LINE: E, or E ? E (what counts if the first is not 0).");
        gives("1?2", 2);
        gives("0?2", 0);
        gives("2?0", 0);
        gives("-1?2", 2);
        faulty("1?", 2);
        faulty("?1", 0);
        faulty("1?2?3", 3);
        faulty("1??2", 2);
        faulty("(1?2)", 2);
        faulty("1;2?3?1", 5);
    }

    /** Each byte behind the ahead: whether a text goes on with it, and whether it may end there. */
    private static void next(String ahead, String ends, String goesOn) {
        RungByHeart x = Edge.fresh();
        for (int letter = 0; letter < 256; letter++) {
            if (letter % 16 == 0) {
                x = Edge.fresh();
            }
            for (int i = 0; i < ahead.length(); i++) {
                x.feed(ahead.charAt(i));
            }
            x.feed(letter);
            int fault = goesOn.indexOf(letter) >= 0 ? ahead.length() + 1 : ahead.length();
            Edge.due("\"" + ahead + "\" and byte " + letter, x.law(), ends.indexOf(letter) >= 0 ? 1 : -100 - fault);
        }
    }

    private static void joined() {
        Edge.says("E = A { | A }. A = B { & B }.");
        String[] behind = {"a|", "a&", "a|b|", "a&b|", "a<b|", "a<b&", "a?b&", "a;b|"};
        for (String ahead : behind) {
            next(ahead, DIGITS + NAMES, OPENING);
        }
        gives("1|0&0", 1);
        gives("0&0|1", 1);
        gives("(1|0)&0", 0);
        gives("0|0|0|4", 1);
        gives("4&4&4&0", 0);
        gives("4&4&4&4", 1);
        right("a" + times("|a", 59));
        right("a" + times("&a", 59));
    }

    private static void oneComparison() {
        Edge.says("B = S, or S < S, S = S, S > S.");
        for (int i = 0; i < 3; i++) {
            char sign = COMPARING.charAt(i);
            next("a" + sign, DIGITS + NAMES, OPENING);
            next("a" + sign + "b", "", JOINING + "?;");
            next("a+1" + sign + "b*c", "", JOINING + "?;");
            next("a?b" + sign + "c", "", JOINING + ";");
            next("(a" + sign + "b", ")", JOINING);
            next("(a" + sign + "b)", "", JOINING + COMPARING + "?;");
            next("a" + sign + "b&c", "", JOINING + COMPARING + "?;");
            next("a" + sign + "b|c", "", JOINING + COMPARING + "?;");
            next("a" + sign + "b?c", "", JOINING + COMPARING + ";");
            next("a" + sign + "b;c", "", JOINING + COMPARING + "?;");
        }
        gives("(2>1)>0", 1);
        gives("3>2&2>1", 1);
        gives("1<1+1", 1);
        gives("1+1<1", 0);
    }

    private static void sums() {
        Edge.says("S = P { + P, - P }. P = O { * O, / O, % O }.");
        for (int i = 0; i < 5; i++) {
            char sign = JOINING.charAt(i);
            next("a" + sign, DIGITS + NAMES, OPENING);
            next("a" + sign + "b", "", JOINING + COMPARING + "?;");
            right("a" + times(sign + "a", 59));
        }
        gives("3-1-1", 1);
        gives("1+2*0", 1);
        gives("8/2/2", 2);
        gives("8/(2*2)", 2);
        gives("7%4*2%4", 2);
        gives("2*3%4", 2);
    }

    private static void operands() {
        Edge.says("O = a number (1 to 4 digits), a NAME, ! O, - O, ( E ).");
        String[] beginning = {"", "a;", "a?", "a?b;", "a?b;c?", "!", "-", "!-!-!", "(a)+", "1+", "a+!!!!!!b+"};
        for (String ahead : beginning) {
            next(ahead, DIGITS + NAMES, OPENING);
        }
        String[] opened = {"(", "(-", "((((!", "(a+", "(a<", "(a<b&", "!(", "((a)|"};
        for (String ahead : opened) {
            next(ahead, "", DIGITS + NAMES + OPENING);
        }
        String[] line = {"a", "b", "c", "r", "g", "m", "!a", "-1234", "(a)", "(a<b)", "a;b", "1;1;b"};
        for (String ahead : line) {
            next(ahead, "", JOINING + COMPARING + "?;");
        }
        next("a?b", "", JOINING + COMPARING + ";");
        next("(a", ")", JOINING + COMPARING);
        next("(a)+(b", ")", JOINING + COMPARING);
        next("((a", "", JOINING + COMPARING + ")");
        next("((a)", ")", JOINING + COMPARING);
        next("!(a", ")", JOINING + COMPARING);
        digits();
        gives("!0*2", 2);
        gives("!(0*2)", 1);
        gives("-1+2", 1);
        gives("-(1-3)", 2);
    }

    private static void digits() {
        next("1", DIGITS, JOINING + COMPARING + "?;");
        next("123", DIGITS, JOINING + COMPARING + "?;");
        next("1234", "", JOINING + COMPARING + "?;");
        next("0000", "", JOINING + COMPARING + "?;");
        next("a?1234", "", JOINING + COMPARING + ";");
        next("(1234", ")", JOINING + COMPARING);
        equal("9999", "9998+1");
        equal("0000", "0");
        equal("0007", "7");
        equal("1000", "999+1");
    }

    private static void blanks() {
        Edge.says("No blanks.");
        String text = "(a+1)<23?!b%4;-r";
        right(text);
        for (int i = 0; i <= text.length(); i++) {
            faulty(text.substring(0, i) + " " + text.substring(i), i);
            faulty(text.substring(0, i) + "\t" + text.substring(i), i);
            faulty(text.substring(0, i) + "\n" + text.substring(i), i);
        }
    }

    private static void names() {
        Edge.says("NAMES: a, b, c how many FARMS do 1, 2, 3 in the minute ahead; r what was rung in it; g how many minutes "
            + "ahead of this one, one after the other, the same was rung (1 at least); m the minute.");
        for (int many = 0; many <= 10; many++) {
            for (int sign = 1; sign <= 3; sign++) {
                RungByHeart x = Edge.fresh();
                for (int f = 0; f < many; f++) {
                    sham(x, sign);
                }
                Edge.lawOf(x, "a*100+b*10+c=" + (sign == 1 ? many * 100 : sign == 2 ? many * 10 : many));
                Edge.due(many + " do " + sign, x.rung(1), 1);
            }
        }
        // In minute 1 it counts what was done in minute 0, of which a true farm hears BEGINS.
        RungByHeart x = Edge.withLaw("m=1?c;0");
        x.farm(0, 0);
        Edge.begins(x, 3);
        Edge.due("the minute ahead of 1", x.rung(1), 1);
        RungByHeart told = Edge.withLaw("r=0?1;r=1?2;r=2?3");
        Edge.begins(told, 0);
        for (int minute = 0; minute <= 300; minute++) {
            Edge.due("r", told.rung(minute), minute % 4);
        }
        minutesTold();
        lasting();
    }

    private static int sham(RungByHeart x, int does) {
        return Edge.sham(x, does);
    }

    private static void minutesTold() {
        for (int minute = 1; minute <= 300; minute++) {
            RungByHeart x = Edge.withLaw("m=" + minute + "?2;0");
            Edge.due("m " + minute, x.rung(minute), 2);
            Edge.due("once alone", x.often(300, 2, 0), 1);
        }
        RungByHeart x = Edge.withLaw("m<1|m>300");
        Edge.due("m is 1 to 300", x.often(300, 1, 0), 1);
    }

    private static void lasting() {
        RungByHeart always = Edge.withLaw("g=m?r;3-r");
        Edge.due("g is m as long as the same is rung", always.often(300, 1, 1), 301);
        RungByHeart never = Edge.withLaw("g=1?1-r;3");
        Edge.due("g is 1 at least: 1 0 1 0 ..", never.often(300, 1, 0), 151);
        Edge.due("g is 1 at least", never.often(300, 3, 0), 0);
        for (int g = 1; g <= 300; g++) {
            RungByHeart x = Edge.withLaw("g>" + (g - 1));
            Edge.begins(x, 0);
            Edge.due("g " + g + " in minute " + g, x.rung(g), 1);
            Edge.due("and not ahead of it", x.rung(g - 1), 0);
            RungByHeart y = Edge.withLaw("g=" + g + "?1;0");
            Edge.begins(y, 0);
            Edge.due("the first break", y.often(g, 0, 1), g);
        }
        RungByHeart x = Edge.withLaw("g=3?r+1;r");
        int[] told = {1, 1, 1, 2, 2, 2, 3, 3, 3, 3, 3};
        for (int minute = 0; minute < told.length; minute++) {
            Edge.due("g anew with each sign, minute " + minute, x.rung(minute), told[minute]);
        }
    }

    // ---- what is open at once

    private static void open() {
        Edge.says("At most 6 of ( ! - ahead of an O are open at once.");
        for (int ways = 0; ways < 729; ways++) {
            StringBuilder opened = new StringBuilder();
            StringBuilder closed = new StringBuilder();
            for (int i = 0, rest = ways; i < 6; i++, rest /= 3) {
                opened.append(OPENING.charAt(rest % 3));
                closed.append(rest % 3 == 2 ? ")" : "");
            }
            right(opened + "a" + closed);
            right("a?b*" + opened + "a" + closed + "+" + opened + "1" + closed);
            for (int i = 0; i < 3; i++) {
                faulty(opened.toString() + OPENING.charAt(i) + "a" + closed + ")", 6);
            }
        }
        String[] six = {"!!!!!!", "------", "((((((", "(!-(!-", "!!!(((", "(((!!!"};
        for (String opened : six) {
            boolean closes = !opened.contains("(");
            next(opened, closes ? DIGITS + NAMES : "", closes ? "" : DIGITS + NAMES);
        }
        faulty("a?!!!!!!!b", 8);
        faulty("a;-------b", 8);
        faulty("a?b;c?(((((((b)))))))", 12);
        closedAgain();
    }

    private static void closedAgain() {
        next("((((((a", "", JOINING + COMPARING + ")");
        next("((((((a+", "", DIGITS + NAMES);
        next("((((((a)+", "", DIGITS + NAMES + OPENING);
        next("!!!!!!a+", DIGITS + NAMES, OPENING);
        right("((((((a))))))+((((((b))))))");
        right("!!!!!!a+------b");
        // A ! is open as long as its operand is.
        faulty("!!!(((a+!b)))", 8);
        right("!!!(((a)+!b))");
        faulty("!!!(((a)+!!b))", 10);
        right("(((((!a+!b)))))");
        faulty("(((((!a+!(b))))))", 9);
        right("1-!!!!!!a");
        right("1-!!!!!!a-1");
        // A - between two S is none ahead of an O.
        right("((((((a-b))))))");
        faulty("((((((a--b))))))", 8);
    }

    // ---- ints

    private static void wraps() {
        Edge.says("Ints that wrap;");
        String[][] told = {
            {HIGHEST + "+1", LOWEST}, {LOWEST + "-1", HIGHEST}, {"-" + LOWEST, LOWEST}, {LOWEST + "*-1", LOWEST},
            {"0-" + LOWEST, LOWEST}, {HIGHEST + "*2", "-2"}, {LOWEST + "*2", "0"}, {HIGHEST + "+" + HIGHEST, "-2"},
            {HIGHEST + "*" + HIGHEST, "1"}, {"-1-" + HIGHEST, LOWEST}, {"9999*9999", "9998*9999+9999"}};
        for (String[] t : told) {
            equal(t[0], t[1]);
        }
        gives(HIGHEST + ">0", 1);
        gives(HIGHEST + "+1<0", 1);
        gives(LOWEST + "<0", 1);
        gives(LOWEST + "-1>0", 1);
        gives("9999*9999*22<0", 1);
        gives("9999*9999*21>0", 1);
        // No comparison is a difference, which would wrap.
        gives(LOWEST + "<" + HIGHEST, 1);
        gives(HIGHEST + ">" + LOWEST, 1);
        gives(HIGHEST + "<" + LOWEST, 0);
        gives(LOWEST + ">1", 0);
        gives("1>" + LOWEST, 1);
        gives("-2>" + HIGHEST, 0);
    }

    private static void division() {
        Edge.says("/ and % toward 0,");
        int[][] told = {{7, 2}, {1, 2}, {6, 3}, {5, 7}, {7, 7}, {9999, 10}, {0, 3}};
        for (int[] t : told) {
            String up = "" + t[0];
            String down = "" + t[1];
            equal(up + "/" + down, "" + t[0] / t[1]);
            equal("-" + up + "/" + down, "-" + t[0] / t[1]);
            equal(up + "/-" + down, "-" + t[0] / t[1]);
            equal("-" + up + "/-" + down, "" + t[0] / t[1]);
            equal(up + "%" + down, "" + t[0] % t[1]);
            equal("-" + up + "%" + down, "-" + t[0] % t[1]);
            equal(up + "%-" + down, "" + t[0] % t[1]);
            equal("-" + up + "%-" + down, "-" + t[0] % t[1]);
        }
        equal(LOWEST + "/-1", LOWEST);
        equal(LOWEST + "%-1", "0");
        equal(LOWEST + "/1", LOWEST);
        equal(HIGHEST + "/-1", "-" + HIGHEST);
        equal(HIGHEST + "/" + LOWEST, "0");
        equal(LOWEST + "/" + HIGHEST, "-1");
        equal(LOWEST + "%" + HIGHEST, "-1");
    }

    private static void byNothing() {
        Edge.says("by 0 they give 0;");
        String[] up = {"7", "-7", "0", "1", LOWEST, HIGHEST, "r", "m"};
        for (String left : up) {
            equal(left + "/0", "0");
            equal(left + "%0", "0");
            equal(left + "/a", "0");
            equal(left + "%(1-1)", "0");
            equal("-0*" + left + "/(0/5)", "0");
        }
    }

    private static void truth() {
        Edge.says("| & < = > ! give 1, 0;");
        String[] numbers = {"0", "1", "2", "-1", LOWEST, HIGHEST};
        int[] worth = {0, 1, 2, -1, Edge.MIN, Edge.MAX};
        for (int i = 0; i < worth.length; i++) {
            equal("!" + numbers[i], worth[i] == 0 ? "1" : "0");
            for (int k = 0; k < worth.length; k++) {
                equal(numbers[i] + "|" + numbers[k], worth[i] != 0 || worth[k] != 0 ? "1" : "0");
                equal(numbers[i] + "&" + numbers[k], worth[i] != 0 && worth[k] != 0 ? "1" : "0");
                equal(numbers[i] + "<" + numbers[k], worth[i] < worth[k] ? "1" : "0");
                equal(numbers[i] + "=" + numbers[k], worth[i] == worth[k] ? "1" : "0");
                equal(numbers[i] + ">" + numbers[k], worth[i] > worth[k] ? "1" : "0");
            }
        }
        gives("(5|0)+(5&2)", 2);
        gives("!!9", 1);
    }

    private static void allWorkedOut() {
        Edge.says("all is worked out.");
        gives("0&1/0", 0);
        gives("1|1/0", 1);
        gives("0&(9999%0)|2", 1);
        gives("(1|" + LOWEST + "/-1)+1", 2);
    }

    // ---- lines, faults, what is rung

    private static void firstLine() {
        Edge.says("The first LINE without a first E, or whose first E is not 0, counts; none: 0.");
        gives("2", 2);
        gives("2;3", 2);
        gives("0;3", 0);
        gives("0?1", 0);
        gives("0?1;0?2;0?3", 0);
        gives("0?1;2", 2);
        gives("0?1;2;3", 2);
        gives("0?1;3?2", 2);
        gives("0?1;3?2;1", 2);
        gives("1?0;3", 0);
        gives("-1?3;2", 3);
        gives(LOWEST + "?3;2", 3);
        gives("0/0?3;2", 2);
        gives("(1<0)?3;1=1?1;2", 1);
        // A line that does not count leaves nothing behind.
        gives("0?1+1;1+1", 2);
        gives("0?1;0?1;0?1;0?1;1+0*9", 1);
    }

    private static void fault() {
        Edge.says("FAULT: the place (from 0) of the first byte with which no TEXT goes on;");
        faulty("x", 0);
        faulty("\u0000", 0);
        faulty("\u00ff", 0);
        faulty("1.5", 1);
        faulty("a)b)c", 1);
        faulty("a+*b;;", 2);
        faulty("(a;b)", 2);
        String text = "a" + times("+a", 59);
        for (int place = 0; place < 119; place++) {
            faulty(text.substring(0, place) + "x" + text.substring(place + 1), place);
        }
        faulty("1" + times("+1", 59) + "x", 119);
        faulty(times("(", 120), 6);
        faulty(times("1", 120), 4);
        faulty(times("a", 120), 1);
        faulty(times(";", 120), 0);
    }

    private static void tooEarly() {
        Edge.says("the length, if it ends too early.");
        faulty("", 0);
        String[] texts = {"(", "a+", "a?", "a;", "!", "-", "(a", "a<", "1+(2", "a?b;", "((((((a)))))", "a?b;c?", "!!!!!!"};
        for (String text : texts) {
            faulty(text, text.length());
        }
        for (int length = 2; length <= 120; length += 2) {
            faulty(times("a+", length / 2), length);
            faulty("(" + times("a*", length / 2 - 1) + "a", length);
        }
    }

    private static void held() {
        Edge.says("In minute m (1 on) is RUNG what it gives (held within 0 .. 3).");
        gives("0", 0);
        gives("1", 1);
        gives("2", 2);
        gives("3", 3);
        gives("4", 3);
        gives("5", 3);
        gives("256", 3);
        gives("257", 3);
        gives("9999", 3);
        gives("-1", 0);
        gives("-2", 0);
        gives("-9999", 0);
        gives(LOWEST, 0);
        gives(LOWEST + "+1", 0);
        gives(HIGHEST, 3);
        gives("9999*9999*22", 0);
        RungByHeart x = Edge.withLaw("3");
        for (int sign = 0; sign <= 3; sign++) {
            Edge.begins(x, sign);
            Edge.due("minute 0 is BEGINS", x.rung(0), sign);
            Edge.due("minute 1 is the law's", x.rung(1), 3);
            Edge.due("minute 300 is the law's", x.rung(300), 3);
        }
        Edge.due("in deed", x.pass(), 3);
        Edge.lawOf(x, "-5");
        Edge.due("in deed", x.pass(), 0);
        Edge.lawOf(x, "r+7");
        Edge.due("in deed", x.pass(), 3);
        Edge.due("r is held, too", x.rung(2), 3);
    }

    private static void withoutText() {
        Edge.says("Without a text: of 1, 2, 3 that which most FARMS did in the minute ahead (of like ones the least), "
            + "if these are QUORUM at least and 1 at least; else 0.");
        for (int a = 0; a <= 10; a++) {
            for (int b = 0; a + b <= 10; b++) {
                for (int c = 0; a + b + c <= 10; c++) {
                    mostOf(a, b, c);
                }
            }
        }
        RungByHeart x = Edge.deafFarms(10);
        x.mend(0, 5, 0);
        Edge.due("ten that do nothing are none", x.rung(1), 0);
    }

    private static void mostOf(int a, int b, int c) {
        RungByHeart x = Edge.fresh();
        for (int f = 0; f < a + b + c; f++) {
            sham(x, f < a ? 1 : f < a + b ? 2 : 3);
        }
        // Those left do nothing, however many they are.
        while (x.count(0) < 10) {
            x.farm(0, 1);
        }
        int most = Math.max(a, Math.max(b, c));
        int sign = a == most ? 1 : b == most ? 2 : 3;
        for (int quorum = 0; quorum <= 10; quorum++) {
            x.mend(0, 5, quorum);
            int want = most >= Math.max(1, quorum) ? sign : 0;
            Edge.due(a + ", " + b + ", " + c + " by QUORUM " + quorum, x.rung(1), want);
        }
    }
}
