/** For each promise of the document its rows: ordinary calls, the edges it names, wrong inputs. Worked out by hand. */
public final class PromiseTests {
    private static final int BAD = -1, NOT = -2, FULL = -3, STATE = -5;
    private static final int NOTHING = -11, OTHER = -12, PLACE = -13, SIZE = -14;
    private static final int MIN = Integer.MIN_VALUE, MAX = Integer.MAX_VALUE;

    private static int wrong = 0;
    private static int promise = 0;
    private static int rows = 0;

    private static void due(String call, long got, long want) {
        rows++;
        if (got != want) {
            wrong++;
            System.out.println("promise " + promise + ": " + call + " answered " + got + ", due is " + want);
        }
    }

    public static void main(String[] args) {
        farmsTold();
        daysInThought();
        otherChurch();
        inDeed();
        actsAndShelves();
        System.out.println(wrong == 0 ? rows + " answers are as due" : wrong + " answers are not as due");
        if (wrong != 0) {
            System.exit(1);
        }
    }

    // ---- making what a row needs

    private static RungByHeart fresh() {
        return new RungByHeart();
    }

    private static RungByHeart withLaw(String text) {
        RungByHeart x = fresh();
        due("law \"" + text + "\"", lawOf(x, text), 1);
        return x;
    }

    private static int lawOf(RungByHeart x, String text) {
        for (int i = 0; i < text.length(); i++) {
            due("feed", x.feed(text.charAt(i)), i + 1);
        }
        return x.law();
    }

    private static void bytes(RungByHeart x, int shelf, int... values) {
        due("row", x.row(shelf, 0, values.length), 1);
        for (int i = 0; i < values.length; i++) {
            due("put", x.put(shelf, i, values[i]), 1);
        }
    }

    /** A farm that does one sign from minute 0 on. */
    private static int sham(RungByHeart x, int does) {
        int number = x.farm(0, 5);
        x.mend(number, 3, does);
        return number;
    }

    private static void begins(RungByHeart x, int sign) {
        x.mend(0, 6, sign);
    }

    // ---- promises 1 to 7

    private static void farmsTold() {
        promise = 1;
        newObject();
        promise = 2;
        farm();
        promise = 3;
        farms();
        promise = 4;
        mend();
        promise = 5;
        of();
        promise = 6;
        feed();
        promise = 7;
        law();
        lawWorked();
    }

    private static void newObject() {
        RungByHeart x = fresh();
        for (int what = 0; what < 5; what++) {
            due("count(" + what + ")", x.count(what), 0);
            due("led(" + what + ")", x.led(what), what == 4 ? 1 : 0);
        }
        due("of(0, 5)", x.of(0, 5), 1);
        due("of(0, 6)", x.of(0, 6), 1);
        due("of(0, 7)", x.of(0, 7), 0);
        due("of(0, 10)", x.of(0, 10), 0);
        due("of(0, 11)", x.of(0, 11), 1);
        due("undo()", x.undo(), STATE);
        due("redo()", x.redo(), STATE);
        due("back()", x.back(), STATE);
        for (int shelf = 0; shelf < 6; shelf++) {
            due("taken", x.taken(shelf, 0), NOTHING);
        }
        due("rung(0)", x.rung(0), 1);
        due("rung(1)", x.rung(1), 0);
        due("trace(0)", x.trace(0), BAD);
        due("BAD", RungByHeart.BAD, -1);
        due("NOT", RungByHeart.NOT, -2);
        due("FULL", RungByHeart.FULL, -3);
        due("STATE", RungByHeart.STATE, -5);
        due("VOID", RungByHeart.VOID, -2000000000);
    }

    private static void farm() {
        RungByHeart x = fresh();
        int[] off = {-1, 10, MIN, MAX};
        for (int v : off) {
            due("farm(" + v + ", 0)", x.farm(v, 0), BAD);
        }
        due("farm(0, -1)", x.farm(0, -1), BAD);
        due("farm(0, 6)", x.farm(0, 6), BAD);
        due("farm(9, 5)", x.farm(9, 5), 0);
        due("of(0, 0)", x.of(0, 0), 9);
        due("of(0, 1)", x.of(0, 1), 5);
        due("of(0, 2)", x.of(0, 2), 0);
        due("of(0, 3)", x.of(0, 3), 1);
        due("of(0, 4)", x.of(0, 4), 0);
        for (int i = 1; i < 10; i++) {
            due("farm", x.farm(0, 0), i);
        }
        due("farm, the 11th", x.farm(0, 0), FULL);
        due("farm, BAD ahead of FULL", x.farm(10, 0), BAD);
        due("count(0)", x.count(0), 10);
        due("a farm is no change", x.undo(), STATE);
    }

    private static void farms() {
        RungByHeart x = fresh();
        due("the row is missing", x.farms(0, 0, 3), 0);
        due("shelf -1", x.farms(-1, 0, 3), BAD);
        due("shelf 6", x.farms(6, 0, 3), BAD);
        due("n 0", x.farms(0, 0, 0), BAD);
        due("n 11", x.farms(0, 0, 11), BAD);
        x.body(0);
        x.keep(0, 0);
        due("a stroke", x.farms(0, 0, 1), OTHER);
        due("BAD ahead of -12", x.farms(0, 0, 11), BAD);
        for (int sort = 1; sort < 5; sort++) {
            x.row(0, sort, 9);
            due("sort " + sort, x.farms(0, 0, 1), OTHER);
        }
        bytes(x, 0, 7, 1, 2, 3, 9, 5, 99, 4, 4);
        due("it ends within a three", x.farms(0, 1, 10), 2);
        due("of(0, 0)", x.of(0, 0), 1);
        due("of(0, 1)", x.of(0, 1), 2);
        due("of(0, 2)", x.of(0, 2), 3);
        due("of(0, 3)", x.of(0, 3), 1);
        due("of(0, 4)", x.of(0, 4), 0);
        due("of(1, 0)", x.of(1, 0), 9);
        due("of(1, 1)", x.of(1, 1), 5);
        due("of(1, 2)", x.of(1, 2), 99);
        due("n alone", x.farms(0, 1, 1), 1);
        due("the last three", x.farms(0, 6, 2), 0);
        due("at the end", x.farms(0, 9, 1), 0);
        due("beyond", x.farms(0, 10, 1), 0);
        due("far beyond", x.farms(0, MAX, 10), 0);
        due("far beyond", x.farms(0, MAX - 1, 10), 0);
        due("ahead of the row", x.farms(0, -1, 2), 0);
        due("ahead of the row", x.farms(0, -3, 2), 0);
        due("far ahead of it", x.farms(0, MIN, 2), 0);
        due("count(0)", x.count(0), 3);
        farmsNotSo();
        farmsFull();
    }

    private static void farmsNotSo() {
        int[][] unlike = {{10, 0, 0}, {-1, 0, 0}, {0, 6, 0}, {0, -1, 0}, {0, 0, 100}, {0, 0, -1}};
        for (int[] three : unlike) {
            RungByHeart x = fresh();
            bytes(x, 5, 1, 1, 1, three[0], three[1], three[2], 2, 2, 2);
            due("one is not so", x.farms(5, 0, 3), 1);
            due("count(0)", x.count(0), 1);
            due("behind it", x.farms(5, 6, 3), 1);
            due("of(1, 2)", x.of(1, 2), 2);
        }
        RungByHeart x = fresh();
        bytes(x, 5);
        due("an empty row", x.farms(5, 0, 1), 0);
    }

    private static void farmsFull() {
        RungByHeart x = fresh();
        for (int i = 0; i < 8; i++) {
            x.farm(0, 0);
        }
        bytes(x, 2, 1, 0, 0, 2, 0, 0, 3, 0, 0, 4, 0, 0);
        due("FARMS are FULL", x.farms(2, 0, 4), 2);
        due("of(9, 0)", x.of(9, 0), 2);
        due("FULL at first", x.farms(2, 0, 4), 0);
        due("count(0)", x.count(0), 10);
    }

    private static void mend() {
        RungByHeart x = fresh();
        due("no farm", x.mend(0, 0, 0), BAD);
        x.farm(1, 2);
        x.farm(3, 4);
        int[] most = {9, 5, 99, 3, 9, 10, 3, 12};
        int[] first = {3, 4, 0, 1, 0, 1, 1, 0};
        for (int what = 0; what < 8; what++) {
            int number = what < 5 ? 1 : 0;
            due("v -1", x.mend(number, what, -1), BAD);
            due("v above", x.mend(number, what, most[what] + 1), BAD);
            due("v far above", x.mend(number, what, MAX), BAD);
            due("number -1", x.mend(-1, what, 0), BAD);
            due("number " + (what < 5 ? 2 : 1), x.mend(what < 5 ? 2 : 1, what, 0), BAD);
            due("to the most", x.mend(number, what, most[what]), first[what]);
            due("of", x.of(number, what), most[what]);
            due("to 0", x.mend(number, what, 0), most[what]);
            due("to 0 again", x.mend(number, what, 0), 0);
            due("to 1", x.mend(number, what, 1), 0);
        }
        due("the other farm stays", x.of(0, 0) * 10 + x.of(0, 1), 12);
        due("what -1", x.mend(0, -1, 0), BAD);
        due("what 8", x.mend(0, 8, 0), BAD);
        due("what 10", x.mend(0, 10, 0), BAD);
        due("what MIN", x.mend(0, MIN, 0), BAD);
    }

    private static void of() {
        RungByHeart x = fresh();
        x.farm(4, 3);
        due("of(0, 0)", x.of(0, 0), 4);
        due("of(0, 1)", x.of(0, 1), 3);
        due("of(1, 0)", x.of(1, 0), BAD);
        due("of(-1, 0)", x.of(-1, 0), BAD);
        due("of(1, 5)", x.of(1, 5), BAD);
        due("of(0, -1)", x.of(0, -1), BAD);
        due("of(0, 8)", x.of(0, 8), BAD);
        due("of(0, 9)", x.of(0, 9), BAD);
        due("of(0, 12)", x.of(0, 12), BAD);
        due("of(1, 10)", x.of(1, 10), BAD);
        due("of(1, 11)", x.of(1, 11), BAD);
        due("of(0, 10)", x.of(0, 10), 0);
        due("of(0, 11)", x.of(0, 11), 1);
        begins(x, 3);
        due("BEGINS as it is", x.of(0, 11), 3);
        x.pass();
        x.pass();
        due("of(0, 10)", x.of(0, 10), 2);
        due("the dog's 1", x.of(0, 11), 1);
    }

    private static void feed() {
        RungByHeart x = fresh();
        due("feed(-1)", x.feed(-1), BAD);
        due("feed(256)", x.feed(256), BAD);
        due("feed(MIN)", x.feed(MIN), BAD);
        due("feed(0)", x.feed(0), 1);
        due("feed(255)", x.feed(255), 2);
        for (int i = 2; i < 120; i++) {
            due("feed", x.feed('1'), i + 1);
        }
        due("feed, the 121st", x.feed('1'), FULL);
        due("feed, BAD ahead of FULL", x.feed(256), BAD);
        due("count(1)", x.count(1), 120);
        due("law()", x.law(), -100);
        due("count(1)", x.count(1), 0);
        due("feed", x.feed(200), 1);
    }

    private static void law() {
        String[] right = {"a", "0", "1234", "0000", "a?b;c", "r;g;m", "(a<b)<c", "a<b|b=c&c>1", "!!!!!!a", "------a",
            "((((((a))))))", "!-(!-(a))", "!!!!!!a+------b", "a--b", "a*-b", "a+b-c*r/g%m", "(1)?(2);(3)?(4)", "a<(b<(c<1))"};
        for (String text : right) {
            withLaw(text);
        }
        Object[][] faults = {{"", 0}, {"a;", 2}, {";a", 0}, {"?", 0}, {"a?", 2}, {"a?b?c", 3}, {"a?b;", 4}, {"a;;b", 2},
            {"a<b<c", 3}, {"a=b>c", 3}, {"a&b<c|c=1<2", 9}, {"(a<b=c)", 4}, {"a<b+1<c", 5}, {"12345", 4}, {"a+12345", 6},
            {"a b", 1}, {" a", 0}, {"d", 0}, {"A", 0}, {"ab", 1}, {"1a", 1}, {"a1", 1}, {"(a", 2}, {"(a;b)", 2},
            {"(a?b)", 2}, {"a)", 1}, {"()", 1}, {"(a)(b)", 3}, {"(a)1", 3}, {"!!!!!!!a", 6}, {"-------a", 6},
            {"(((((((a", 6}, {"!(!(!((a", 6}, {"!-!-!-", 6}, {"((((((a)))))", 12}, {"a+", 2}, {"a+*b", 2}, {"a||b", 2}, {"*a", 0},
            {"a!", 1}, {"a!b", 1}, {"1;2;", 4}, {"a?b;c?d", 6}, {"a:b", 1}, {"\u00e9", 0}, {"a\u0000", 1}, {"1.5", 1},
            {"!", 1}, {"-", 1}, {"(", 1}, {"(((((-a)))))+((((((a", 20}, {"!!!!!!a+!!!!!!!b", 14}};
        for (Object[] f : faults) {
            RungByHeart x = fresh();
            String text = (String) f[0];
            due("law \"" + text + "\"", lawOf(x, text), -100 - (Integer) f[1]);
            due("the tape is empty then", x.count(1), 0);
        }
        RungByHeart x = withLaw("2");
        due("the tape is empty then", x.count(1), 0);
        due("rung(1)", x.rung(1), 2);
        due("a fault", lawOf(x, "3;"), -102);
        due("the law stays", x.rung(1), 2);
        due("no text", x.law(), -100);
        due("the law stays", x.rung(1), 2);
        due("another", lawOf(x, "3"), 1);
        due("it counts", x.rung(1), 3);
        StringBuilder full = new StringBuilder("10");
        while (full.length() < 120) {
            full.append("-0");
        }
        due("120 bytes", lawOf(x, full.toString()), 1);
        due("held", x.rung(1), 3);
        full = new StringBuilder("!0");
        while (full.length() < 120) {
            full.append("+0");
        }
        due("120 bytes, none of which goes with another", lawOf(x, full.toString()), 1);
        due("all counts", x.rung(1), 1);
        full.setCharAt(119, '2');
        x = fresh();
        due("to the last byte", lawOf(x, full.toString()), 1);
        due("all counts", x.rung(1), 3);
        full.setCharAt(119, '(');
        due("120 bytes that end too early", lawOf(x, full.toString()), -220);
        full.setLength(0);
        while (full.length() < 118) {
            full.append("0?3;");
        }
        due("thirty lines", lawOf(x, full.substring(0, 119)), 1);
        due("none counts", x.rung(1), 0);
    }

    private static void lawWorked() {
        Object[][] worth = {{"0", 0}, {"2", 2}, {"9", 3}, {"-1", 0}, {"1+1", 2}, {"3-1-1", 1}, {"1+2*0", 1}, {"(1+2)*0", 0},
            {"7/2", 3}, {"7%4", 3}, {"-7/2+5", 2}, {"-7%4+5", 2}, {"8/3/2", 1}, {"7/0+1", 1}, {"7%0+1", 1}, {"5*2%4", 2},
            {"!0", 1}, {"!5", 0}, {"!!5", 1}, {"--2", 2}, {"!-1+2", 2}, {"-!1+2", 2}, {"1<2", 1}, {"2<1", 0}, {"2<2", 0},
            {"2>1", 1}, {"1>2", 0}, {"2>2", 0}, {"2=2", 1}, {"1=2", 0}, {"1<1+1", 1}, {"5|0", 1}, {"0|0", 0}, {"0|7", 1},
            {"5&2", 1}, {"5&0", 0}, {"0&5", 0}, {"1|0&0", 1}, {"0&0|1", 1}, {"0&1<2", 0}, {"2&3=3", 1}, {"0|0|4", 1},
            {"4&4&4", 1}, {"9999*9999*9999>0?1;2", 2}, {"9999*9999*9999/9999*0+2", 2}, {"0?1;2", 2}, {"1?1;2", 1},
            {"-1?3;2", 3}, {"0?1;0?2;3", 3}, {"0?1;5?2;3", 2}, {"0?1;0?2", 0}, {"2;3", 2}, {"0?1;2;3", 2}, {"0;3", 0},
            {"m", 1}, {"r", 1}, {"g", 1}, {"0012-10", 2}, {"a+b+c", 0}, {"-(9999*9999*22)<0?1;3", 3},
            // the lowest int by -1 wraps
            {"(0-9999*9999*21-9999*4790-8417)/-1<0?2;1", 2}, {"(0-9999*9999*21-9999*4790-8417)%-1+1", 1},
            {"0-9999*9999*21-9999*4790-8417-1>0?2;1", 2}};
        for (Object[] w : worth) {
            RungByHeart x = withLaw((String) w[0]);
            due("rung(1) by \"" + w[0] + "\"", x.rung(1), (Integer) w[1]);
        }
        RungByHeart x = withLaw("a*0+m%4");
        due("m", x.rung(7), 3);
        due("m", x.rung(300), 0);
        names();
    }

    private static void names() {
        RungByHeart x = fresh();
        for (int does = 1; does <= 3; does++) {
            for (int i = 0; i < does; i++) {
                sham(x, does);
            }
        }
        lawOf(x, "a");
        due("a", x.rung(1), 1);
        lawOf(x, "b");
        due("b", x.rung(1), 2);
        lawOf(x, "c");
        due("c", x.rung(1), 3);
        lawOf(x, "m=1?2;r+1");
        due("r", x.rung(1), 2);
        due("r", x.rung(2), 3);
        // 1 1 2 2 ..: g is 1, 2, 1, 2.
        RungByHeart y = withLaw("g=2?r+1;r");
        int[] told = {1, 1, 2, 2, 3, 3, 3, 3};
        for (int m = 0; m < told.length; m++) {
            due("g, minute " + m, y.rung(m), told[m]);
        }
        lawOf(y, "g=m");
        due("g is m at first", y.rung(5), 1);
        begins(y, 0);
        due("nothing rung counts, too", y.rung(1), 1);
        lawOf(y, "g>9?1;0");
        due("ahead of minute 0 is no minute", y.rung(9), 0);
        due("g 10", y.rung(10), 1);
        due("g 1", y.rung(11), 0);
    }

    // ---- promises 8 to 18

    /** Rings 0 1 2 3 0 1 2 3 .. by its law. */
    private static RungByHeart scale() {
        RungByHeart x = withLaw("m%4");
        begins(x, 0);
        return x;
    }

    private static void daysInThought() {
        promise = 8;
        rung();
        promise = 9;
        does();
        promise = 10;
        signs();
        promise = 11;
        round();
        promise = 12;
        ends();
        promise = 13;
        often();
        promise = 14;
        late();
        promise = 15;
        spare();
        promise = 16;
        send();
        promise = 17;
        changesIt();
        promise = 18;
        byWhom();
    }

    private static void rung() {
        RungByHeart x = fresh();
        due("rung(-1)", x.rung(-1), BAD);
        due("rung(301)", x.rung(301), BAD);
        due("rung(MIN)", x.rung(MIN), BAD);
        due("rung(0)", x.rung(0), 1);
        due("no farms", x.rung(1), 0);
        sham(x, 3);
        due("one of 1", x.rung(1), 3);
        x.mend(0, 5, 2);
        due("one of 2", x.rung(1), 0);
        sham(x, 2);
        due("one and one of 2", x.rung(1), 0);
        x.mend(0, 5, 1);
        due("of like ones the least", x.rung(1), 2);
        sham(x, 1);
        due("of like ones the least", x.rung(300), 1);
        sham(x, 3);
        x.mend(0, 5, 2);
        due("most", x.rung(1), 3);
        x.mend(0, 5, 3);
        due("two of 3", x.rung(1), 0);
        x.mend(0, 5, 10);
        due("two of 10", x.rung(1), 0);
        RungByHeart y = fresh();
        y.farm(0, 1);
        y.mend(0, 5, 0);
        due("QUORUM 0: 1 at least", y.rung(1), 0);
        begins(y, 2);
        due("BEGINS", y.rung(0), 2);
        RungByHeart z = fresh();
        z.farm(2, 0);
        int[] told = {1, 0, 0, 1, 0, 0, 1};
        for (int m = 0; m < told.length; m++) {
            due("FAR 2, minute " + m, z.rung(m), told[m]);
        }
        due("deeds are no thought", z.pass() * 10 + z.rung(3), 1);
    }

    private static void does() {
        RungByHeart x = scale();
        due("no farm", x.does(0, 0), BAD);
        x.farm(2, 0);
        x.farm(0, 1);
        x.farm(0, 2);
        x.farm(9, 3);
        x.mend(3, 2, 2);
        x.mend(3, 3, 3);
        x.farm(1, 4);
        x.mend(4, 4, 2);
        x.farm(1, 5);
        x.mend(5, 2, 5);
        x.mend(5, 3, 2);
        int[][] told = {
            {0, 0, 0, 1, 2, 3, 0, 1},
            {0, 0, 0, 0, 0, 0, 0, 0},
            {0, 2, 1, 3, 0, 2, 1, 3},
            {3, 0, 0, 3, 0, 0, 3, 0},
            {0, 0, 0, 0, 1, 2, 3, 0},
            {0, 0, 1, 2, 3, 2, 2, 2}};
        for (int f = 0; f < told.length; f++) {
            for (int m = 0; m < told[f].length; m++) {
                due("farm of kind " + f + ", minute " + m, x.does(f, m), told[f][m]);
            }
        }
        due("minute 300", x.does(0, 300), 2);
        due("dog in 300", x.does(3, 300), 3);
        x.mend(3, 2, 0);
        due("dog with AT 0", x.does(3, 299), 3);
        x.mend(3, 2, 99);
        due("dog with AT 99", x.does(3, 200), 3);
        due("dog with AT 99", x.does(3, 198), 0);
        x.mend(5, 2, 0);
        due("sham from 0 on", x.does(5, 0), 2);
        due("minute -1", x.does(0, -1), BAD);
        due("minute 301", x.does(0, 301), BAD);
        due("farm 6", x.does(6, 0), BAD);
        due("farm -1", x.does(-1, 0), BAD);
        begins(x, 1);
        due("ahead of minute 0", x.does(0, 1), 0);
        due("minute 0 after 2", x.does(0, 2), 1);
    }

    private static void signs() {
        RungByHeart x = scale();
        due("no farms", x.signs(0, 0), 0);
        x.farm(0, 0);
        x.farm(1, 0);
        x.farm(0, 2);
        x.farm(0, 1);
        // In minute 2: 2, 1, 1, 0.
        due("signs(2, 0)", x.signs(2, 0), 1);
        due("signs(2, 1)", x.signs(2, 1), 2);
        due("signs(2, 2)", x.signs(2, 2), 1);
        due("signs(2, 3)", x.signs(2, 3), 0);
        due("signs(300, 0)", x.signs(300, 0), 3);
        due("signs(300, 3)", x.signs(300, 3), 1);
        due("minute -1", x.signs(-1, 0), BAD);
        due("minute 301", x.signs(301, 0), BAD);
        due("sign -1", x.signs(0, -1), BAD);
        due("sign 4", x.signs(0, 4), BAD);
    }

    private static void round() {
        RungByHeart x = scale();
        due("round(0)", x.round(0), 0);
        due("round(1)", x.round(1), 4);
        begins(x, 2);
        due("round(0)", x.round(0), 1);
        due("round(1)", x.round(1), 4);
        due("round(-1)", x.round(-1), BAD);
        due("round(2)", x.round(2), BAD);
        Object[][] told = {
            {"m%60=7", 0, 60}, {"m%61=7", 252, 1}, {"m%61=56", NOT, NOT}, {"m%30=7", 0, 30},
            // 180 is 300 less 2 times 60; from 181 on, 60 minutes are not told twice
            {"m<180?m%7=4;m%60=7", 180, 60}, {"m<181?m%7=5;m%60=7", 248, 1},
            {"m=298?1;0", NOT, NOT}, {"m=297?1;0", 298, 1}, {"m=299?1;0", NOT, NOT}, {"m>298", NOT, NOT}, {"m>297", 298, 1},
            {"m=240", 241, 1}, {"m%2", 0, 2}, {"m<100?m%3;m%6/2", 100, 6}};
        for (Object[] t : told) {
            RungByHeart y = withLaw((String) t[0]);
            begins(y, 0);
            due("from, " + t[0], y.round(0), (Integer) t[1]);
            due("L, " + t[0], y.round(1), (Integer) t[2]);
        }
    }

    private static void ends() {
        Object[][] told = {{"0", 1}, {"m<10", 10}, {"m<300", 300}, {"1", NOT}, {"m%300=0", NOT}, {"m=299", 300}, {"m=5|m=77", 78}};
        for (Object[] t : told) {
            RungByHeart x = withLaw((String) t[0]);
            due("ends, " + t[0], x.ends(), (Integer) t[1]);
        }
        RungByHeart x = fresh();
        due("no farms", x.ends(), 1);
        begins(x, 0);
        due("nothing is ever rung", x.ends(), 0);
    }

    private static void often() {
        // 1 1 1 2 2 1 1 1 1 0 0 ..
        RungByHeart x = withLaw("m=3|m=4?2;m<9");
        due("1 in 0 .. 8", x.often(8, 1, 0), 7);
        due("1 in 0 .. 3", x.often(3, 1, 0), 3);
        due("2 in 0 .. 3", x.often(3, 2, 0), 1);
        due("0 in 0 .. 300", x.often(300, 0, 0), 292);
        due("3 in 0 .. 300", x.often(300, 3, 0), 0);
        due("longest 1 in 0 .. 6", x.often(6, 1, 1), 3);
        due("longest 1 in 0 .. 8", x.often(8, 1, 1), 4);
        due("longest 1 in 0 .. 7", x.often(7, 1, 1), 3);
        due("longest 2", x.often(300, 2, 1), 2);
        due("longest 3", x.often(300, 3, 1), 0);
        due("longest 0", x.often(300, 0, 1), 292);
        due("n 0", x.often(0, 1, 1), 1);
        due("n -1", x.often(-1, 1, 0), BAD);
        due("n 301", x.often(301, 1, 0), BAD);
        due("sign -1", x.often(0, -1, 0), BAD);
        due("sign 4", x.often(0, 4, 0), BAD);
        due("what -1", x.often(0, 0, -1), BAD);
        due("what 2", x.often(0, 0, 2), BAD);
    }

    private static void late() {
        RungByHeart x = scale();
        due("nothing there", x.late(0, 3, 0), NOTHING);
        due("BAD ahead of -11", x.late(0, 301, 0), BAD);
        due("shelf -1", x.late(-1, 3, 0), BAD);
        due("shelf 6", x.late(6, 3, 0), BAD);
        due("n -1", x.late(0, -1, 0), BAD);
        due("what 2", x.late(0, 0, 2), BAD);
        due("what -1", x.late(0, 0, -1), BAD);
        x.row(0, 4, 9);
        due("booleans", x.late(0, 3, 0), OTHER);
        x.body(0);
        x.keep(0, 0);
        due("a stroke", x.late(0, 3, 0), OTHER);
        bytes(x, 0, 0, 1, 2, 3);
        due("all right", x.late(0, 4, 0), 0);
        due("none otherwise", x.late(0, 4, 1), NOT);
        due("those that lack are 0", x.late(0, 7, 0), 3);
        due("the first", x.late(0, 7, 1), 5);
        due("to 300", x.late(0, 300, 0), 222);
        bytes(x, 0, 0, 2, 2, 3, 4, -1, 2);
        due("no SIGN is never right", x.late(0, 6, 0), 3);
        due("the first", x.late(0, 6, 1), 1);
        due("n ends ahead of it", x.late(0, 0, 1), NOT);
        bytes(x, 0, 1, 1);
        due("minute 0, too", x.late(0, 3, 0), 3);
        due("minute 0, too", x.late(0, 3, 1), 0);
        due("minute 0 alone", x.late(0, 0, 0), 1);
        x.row(0, 0, 0);
        due("no bytes at all", x.late(0, 300, 0), 225);
    }

    private static void spare() {
        RungByHeart x = fresh();
        due("no FARMS", x.spare(0), NOT);
        due("no FARMS", x.spare(1), NOT);
        due("spare(-1)", x.spare(-1), BAD);
        due("spare(2)", x.spare(2), BAD);
        RungByHeart y = withLaw("c>0?m<50;b>0?m<100;m<20");
        sham(y, 1);
        due("none ends it earlier", y.spare(0), 0);
        due("it ends as it is", y.spare(1), 20);
        sham(y, 2);
        due("without 1", y.spare(0), 1);
        due("without 1", y.spare(1), 20);
        sham(y, 2);
        due("of like ones the least", y.spare(0), 0);
        due("all end by 100", y.spare(1), 100);
        sham(y, 3);
        due("50 with all", y.spare(1), 50);
        due("of like ones the least", y.spare(0), 0);
        due("nothing is mended", y.of(0, 1), 5);
        RungByHeart z = withLaw("a>1|b");
        sham(z, 1);
        due("one ends it in minute 1", z.spare(1), 1);
        sham(z, 1);
        sham(z, 1);
        due("none ends it", z.spare(0), 0);
        due("none ends it", z.spare(1), NOT);
        begins(z, 0);
        lawOf(z, "a>2");
        due("in minute 0", z.spare(1), 0);
        lawOf(z, "c?m=300;1");
        sham(z, 3);
        due("301 is no less than NOT", z.spare(0), 0);
        lawOf(z, "c?1;m<300");
        due("300 is less", z.spare(0), 3);
        due("300 is less", z.spare(1), 300);
    }

    private static void send() {
        RungByHeart x = withLaw("m<50");
        due("by 49", x.send(49, 0), NOT);
        due("by 49", x.send(49, 1), NOT);
        due("by 50", x.send(50, 0), 0);
        due("by 50", x.send(50, 1), 0);
        due("m -1", x.send(-1, 0), BAD);
        due("m 301", x.send(301, 0), BAD);
        due("what 2", x.send(0, 2), BAD);
        due("what -1", x.send(0, -1), BAD);
        for (int i = 0; i < 5; i++) {
            sham(x, 1);
        }
        x.farm(0, 5);
        x.mend(5, 3, 3);
        lawOf(x, "a>3");
        due("two", x.send(1, 0), 2);
        due("of like ones the least", x.send(1, 1), 3);
        lawOf(x, "a>2");
        due("three", x.send(1, 0), 3);
        due("three", x.send(300, 1), 7);
        lawOf(x, "a>1");
        due("four are too many", x.send(300, 0), NOT);
        lawOf(x, "c");
        due("the fewest", x.send(1, 0), 1);
        due("which", x.send(1, 1), 32);
        lawOf(x, "c|a>4");
        due("two", x.send(1, 0), 2);
        due("which", x.send(1, 1), 33);
        due("by minute 0", x.send(0, 0), NOT);
        begins(x, 0);
        due("by minute 0", x.send(0, 0), 2);
        lawOf(x, "m=300&c");
        due("minute 300 counts", x.send(300, 1), 32);
        // A dog is a sham from minute 0 on, whatever AT and DOES were.
        x.mend(5, 1, 3);
        x.mend(5, 2, 12);
        due("a dog sent", x.send(300, 1), 32);
        due("nothing is mended", x.of(5, 2) * 10 + x.of(5, 3), 123);
    }

    private static void changesIt() {
        RungByHeart x = withLaw("r|a");
        begins(x, 0);
        due("no farm", x.changesIt(0, 0), BAD);
        x.farm(0, 1);
        x.farm(0, 1);
        due("what it does", x.changesIt(0, 10), NOT);
        due("another", x.changesIt(1, 10), 11);
        due("one that changes nothing", x.changesIt(2, 10), NOT);
        due("farm 1", x.changesIt(11, 0), 1);
        due("minute 299", x.changesIt(11, 299), 300);
        due("minute 300", x.changesIt(11, 300), NOT);
        due("minute 301", x.changesIt(11, 301), BAD);
        due("minute -1", x.changesIt(11, -1), BAD);
        due("sign 4", x.changesIt(14, 0), BAD);
        due("sign 9", x.changesIt(9, 0), BAD);
        due("farm 2", x.changesIt(20, 0), BAD);
        due("fs -1", x.changesIt(-1, 0), BAD);
        due("fs -10", x.changesIt(-10, 0), BAD);
        due("fs MIN", x.changesIt(MIN, 0), BAD);
        x.mend(0, 1, 5);
        due("all was rung", x.changesIt(11, 10), NOT);
        lawOf(x, "b?2;a?1");
        due("0 for 1", x.changesIt(0, 10), 11);
        due("1 for 1", x.changesIt(1, 10), NOT);
        changedLater();
    }

    /** Farm 0 is deaf; farm 1 does 0 in minutes 0 to 3, and from minute 4 on the 1 that it hears. */
    private static void changedLater() {
        RungByHeart x = withLaw("a>1?2;b>0&m>12?3;1");
        x.farm(0, 1);
        x.farm(4, 0);
        due("two 1s", x.changesIt(1, 7), 8);
        due("farm 1 hears none yet", x.changesIt(1, 2), NOT);
        due("a 3 counts for nothing", x.changesIt(3, 7), NOT);
        due("too early for the law", x.changesIt(2, 11), NOT);
        due("just then", x.changesIt(2, 12), 13);
    }

    private static void byWhom() {
        RungByHeart x = withLaw("a>1?1;b*2");
        due("no farms", x.byWhom(5), 0);
        sham(x, 1);
        sham(x, 1);
        sham(x, 2);
        x.farm(0, 1);
        due("minute 0", x.byWhom(0), 0);
        due("minute 1", x.byWhom(1), 3);
        due("minute 300", x.byWhom(300), 3);
        x.mend(2, 2, 50);
        lawOf(x, "b");
        due("ahead of minute 50", x.byWhom(50), 0);
        due("behind it", x.byWhom(51), 4);
        due("minute -1", x.byWhom(-1), BAD);
        due("minute 301", x.byWhom(301), BAD);
        due("nothing is mended", x.of(2, 1), 5);
    }

    // ---- promises 19 to 27

    private static void otherChurch() {
        promise = 19;
        church();
        promise = 20;
        alike();
        promise = 21;
        judge();
        promise = 22;
        kinds();
        promise = 23;
        howFar();
        promise = 24;
        which();
        promise = 25;
        asTold();
        promise = 26;
        deaf();
        promise = 27;
        drawn();
    }

    private static void church() {
        RungByHeart x = withLaw("(r+1)%4");
        due("the first", x.church(3, 5, 0), 2);
        due("its own r", x.church(3, 5, 1), 0);
        due("its BEGINS", x.church(3, 0, 1), 3);
        due("its BEGINS", x.church(3, 0, 0), 1);
        due("no farm in a set", x.church(10, 0, 0), BAD);
        due("BEGINS 4", x.church(4, 0, 0), BAD);
        due("sb -1", x.church(-1, 0, 0), BAD);
        due("sb -10", x.church(-10, 0, 0), BAD);
        due("minute -1", x.church(0, -1, 0), BAD);
        due("minute 301", x.church(0, 301, 0), BAD);
        due("what -1", x.church(0, 0, -1), BAD);
        due("what 2", x.church(0, 0, 2), BAD);
        lawOf(x, "g");
        due("the first", x.church(3, 2, 0), 2);
        due("its own g", x.church(3, 2, 1), 1);
        RungByHeart y = withLaw("a");
        y.farm(0, 0);
        due("hears the first", y.church(2, 9, 1), 1);
        due("hears the other", y.church(12, 1, 0), 0);
        due("hears the other", y.church(12, 1, 1), 0);
        due("hears the other", y.church(11, 9, 0), 1);
        due("set 2", y.church(20, 0, 0), BAD);
        due("the highest set", y.church(13, 300, 0), 0);
        RungByHeart z = withLaw("a+b*2+c*3");
        z.farm(1, 0);
        z.farm(0, 4);
        z.mend(1, 4, 2);
        begins(z, 0);
        // Farm 1 rests 2 minutes, then does what the other church rang: 3 in minute 0.
        due("the mourner hears it", z.church(23, 2, 0), 0);
        due("the mourner hears it", z.church(23, 3, 0), 3);
        due("farm 0 hears the first", z.church(23, 5, 1), 3);
        due("without a text", bothWithoutText(), 2);
        due("set 1000 of four farms", setOfTheLast(0), 0);
        due("set 1000 of four farms", setOfTheLast(1), 3);
    }

    /** Of four farms the last alone hears the other church, which rang 3 in minute 0; the others stand deaf. */
    private static int setOfTheLast(int what) {
        RungByHeart x = withLaw("r>2?c*3;0");
        x.farm(0, 1);
        x.farm(0, 1);
        x.farm(0, 1);
        x.farm(0, 0);
        return x.church(83, 5, what);
    }

    private static int bothWithoutText() {
        RungByHeart x = fresh();
        sham(x, 2);
        return x.church(3, 7, 0) == x.church(3, 7, 1) ? x.church(13, 7, 1) : -1;
    }

    private static void alike() {
        RungByHeart x = withLaw("r");
        due("never", x.alike(3, 300), 0);
        due("never", x.alike(3, -1), NOT);
        due("always", x.alike(1, 300), 301);
        due("always", x.alike(1, -1), 0);
        due("n 0", x.alike(1, 0), 1);
        lawOf(x, "m<5?r;0");
        due("5 .. 10", x.alike(3, 10), 6);
        due("0 .. 4", x.alike(3, 4), 0);
        due("from 5 on", x.alike(3, -1), 5);
        lawOf(x, "m%2*r;0");
        due("minute 0 alone is otherwise", x.alike(2, -1), 2);
        lawOf(x, "m=300?r;2*(r=9)");
        due("n -2", x.alike(3, -2), BAD);
        due("n 301", x.alike(3, 301), BAD);
        due("sb 4", x.alike(4, 0), BAD);
        due("sb 10", x.alike(10, 0), BAD);
        due("sb -1", x.alike(-1, 0), BAD);
        lawOf(x, "m<300?r;0");
        due("from 300 on", x.alike(0, -1), 300);
        x.farm(0, 0);
        lawOf(x, "a");
        due("they hear one another", x.alike(12, 3), 3);
    }

    private static void noRow(java.util.function.IntUnaryOperator call, RungByHeart x) {
        due("nothing there", call.applyAsInt(5), NOTHING);
        due("shelf -1", call.applyAsInt(-1), BAD);
        due("shelf 6", call.applyAsInt(6), BAD);
        x.row(5, 1, 3);
        due("shorts", call.applyAsInt(5), OTHER);
        x.row(5, 4, 3);
        due("booleans", call.applyAsInt(5), OTHER);
        x.keep(5, x.body(0));
        due("a stroke", call.applyAsInt(5), OTHER);
        x.keep(5, -1);
    }

    private static void judge() {
        RungByHeart x = scale();
        bytes(x, 0, 0, 0, 0, 1, 2, 3);
        due("no farm", x.judge(0, 0), BAD);
        due("no farm ahead of -11", x.judge(1, 0), BAD);
        x.farm(2, 0);
        noRow(s -> x.judge(s, 0), x);
        due("farm 1", x.judge(0, 1), BAD);
        due("farm -1", x.judge(0, -1), BAD);
        due("all is so", x.judge(0, 0), NOT);
        x.put(0, 5, 2);
        due("the first that is not", x.judge(0, 0), 5);
        x.put(0, 1, 1);
        due("the first that is not", x.judge(0, 0), 1);
        x.put(0, 1, 4);
        due("not seen", x.judge(0, 0), 5);
        x.put(0, 5, -1);
        due("not seen", x.judge(0, 0), NOT);
        bytes(x, 0);
        due("an empty row", x.judge(0, 0), NOT);
        x.row(0, 0, 60);
        due("0 for 1", x.judge(0, 0), 3);
        x.pass();
        x.tell(0, 3);
        bytes(x, 0, 0, 0, 0, 1);
        due("deeds are not the day", x.judge(0, 0), NOT);
    }

    private static void kinds() {
        RungByHeart x = scale();
        bytes(x, 0, 0, 0, 0, 1, 2, 3);
        due("no farm", x.kinds(0, 0), BAD);
        x.farm(2, 3);
        noRow(s -> x.kinds(s, 0), x);
        due("farm -1", x.kinds(0, -1), BAD);
        due("TRUE, MOURNER without rest", x.kinds(0, 0), 17);
        x.mend(0, 2, 6);
        due("SHAM later, too", x.kinds(0, 0), 49);
        x.mend(0, 4, 1);
        due("the mourner rests", x.kinds(0, 0), 33);
        bytes(x, 0, 0, 0, 0, 2, 1, 3);
        due("STRANGER", x.kinds(0, 0), 4);
        bytes(x, 0, 0, 0, 0, 0, 0, 0);
        due("DEAF", x.kinds(0, 0), 2);
        bytes(x, 0, 1, 0, 0, 0, 0, 0, 0, 1);
        due("DOG", x.kinds(0, 0), 8);
        bytes(x, 0, 0, 0, 0, 0, 1, 2, 3);
        due("MOURNER", x.kinds(0, 0), 16);
        bytes(x, 0, 4, 4, 4, 5, -1);
        due("nothing seen", x.kinds(0, 0), 63);
        bytes(x, 0);
        due("an empty row", x.kinds(0, 0), 63);
        due("nothing is mended", x.of(0, 1), 3);
        // Of another kind it changes what is rung, and so what it does.
        RungByHeart y = fresh();
        y.farm(0, 2);
        bytes(y, 0, 1, 1, 1);
        due("the day would be so", y.kinds(0, 0), 1 + 8 + 16 + 32);
        bytes(y, 0, 2, 1, 2);
        due("the day would be so", y.kinds(0, 0), 4);
    }

    private static void howFar() {
        RungByHeart x = scale();
        bytes(x, 0, 0, 0, 0, 1, 2, 3);
        due("no farm", x.howFar(0, 0), BAD);
        x.farm(9, 0);
        noRow(s -> x.howFar(s, 0), x);
        due("farm 1", x.howFar(0, 1), BAD);
        due("2", x.howFar(0, 0), 2);
        bytes(x, 0, 4, 4, 4, 4, 4, 4, 4, 4, 4, 0, 1);
        due("1, the least of 1, 5, 9", x.howFar(0, 0), 1);
        bytes(x, 0, 0, 0, 0, 0, 0, 0, 0, 0, 0, 0, 1);
        due("9", x.howFar(0, 0), 9);
        bytes(x, 0, 0, 0, 0, 0, 0, 0, 0, 0, 0, 0, 0, 1);
        due("none", x.howFar(0, 0), NOT);
        bytes(x, 0);
        due("an empty row", x.howFar(0, 0), 0);
        due("nothing is mended", x.of(0, 0), 9);
        RungByHeart y = fresh();
        y.farm(5, 0);
        bytes(y, 0, 0, 0, 1, 0, 0, 1);
        due("the day would be so", y.howFar(0, 0), 2);
    }

    private static void which() {
        RungByHeart x = scale();
        bytes(x, 0, 0, 0, 0, 1, 2);
        due("no farms", x.which(0), 0);
        x.farm(2, 0);
        x.farm(1, 0);
        x.farm(2, 5);
        x.mend(2, 2, 90);
        x.farm(1, 1);
        noRow(s -> x.which(s), x);
        due("0 and 2", x.which(0), 5);
        bytes(x, 0, 0, 0, 4, 1);
        due("0 and 2", x.which(0), 5);
        bytes(x, 0, 0, 0);
        due("all", x.which(0), 15);
        bytes(x, 0);
        due("all", x.which(0), 15);
        bytes(x, 0, 3);
        due("none", x.which(0), 0);
    }

    private static void asTold() {
        RungByHeart x = scale();
        noRow(s -> x.asTold(s), x);
        bytes(x, 0, 0, 1, 2, 3, 0);
        due("all is so", x.asTold(0), NOT);
        x.put(0, 4, 1);
        due("minute 4", x.asTold(0), 4);
        x.put(0, 0, 1);
        due("minute 0", x.asTold(0), 0);
        bytes(x, 0);
        due("an empty row", x.asTold(0), NOT);
        bytes(x, 0, 0, 1, 4, 3);
        due("a byte that is no SIGN", x.asTold(0), 2);
        bytes(x, 0, -1);
        due("a byte that is no SIGN", x.asTold(0), 0);
        x.row(0, 0, 60);
        due("minute 1", x.asTold(0), 1);
    }

    private static void deaf() {
        RungByHeart x = withLaw("a");
        noRow(s -> x.deaf(s), x);
        sham(x, 1);
        sham(x, 1);
        sham(x, 2);
        bytes(x, 0, 1, 2, 2);
        due("none", x.deaf(0), 0);
        bytes(x, 0, 1, 1, 1);
        due("the least set", x.deaf(0), 1);
        bytes(x, 0, 1, 0);
        due("both", x.deaf(0), 3);
        bytes(x, 0, 1, 3);
        due("NOT", x.deaf(0), NOT);
        bytes(x, 0, 0);
        due("minute 0 is BEGINS", x.deaf(0), NOT);
        bytes(x, 0, 1, 4);
        due("a byte that is no SIGN", x.deaf(0), NOT);
        bytes(x, 0);
        due("an empty row", x.deaf(0), 0);
        lawOf(x, "b*2+a");
        bytes(x, 0, 1, 1);
        due("1 and 2", x.deaf(0), 5);
        bytes(x, 0, 1, 2);
        due("2", x.deaf(0), 3);
        due("nothing is mended", x.of(0, 1), 5);
    }

    private static void drawn() {
        RungByHeart x = withLaw("a");
        sham(x, 1);
        due("no rain", x.drawn(7, 310, 0), 30);
        due("no rain", x.drawn(7, 310, 1), 0);
        x.mend(0, 7, 12);
        due("all rain", x.drawn(7, 310, 0), 3);
        due("all rain", x.drawn(7, 310, 1), 3);
        due("one minute", x.drawn(7, 2001, 0), 20);
        due("one minute", x.drawn(7, 2001, 1), 0);
        int[] seeds = {0, 1, -1, 77, MIN, MAX};
        for (int seed : seeds) {
            for (int rains = 1; rains < 12; rains += 5) {
                x.mend(0, 7, rains);
                due("minutes", x.drawn(seed, 599, 0), drawnDays(seed, 5, 99, rains, 0));
                due("days", x.drawn(seed, 2013, 1), drawnDays(seed, 20, 13, rains, 1));
            }
        }
        x.mend(0, 7, 0);
        due("one day", x.drawn(7, 105, 0), 5);
        x.mend(0, 1, 0);
        x.mend(0, 0, 2);
        due("it hears 2 minutes later: 1 0 0 1 0 0 1", x.drawn(7, 207, 0), 6);
        due("the last is rung", x.drawn(7, 207, 1), 0);
        due("the last is not", x.drawn(7, 208, 1), 2);
        due("n 0", x.drawn(1, 50, 0), BAD);
        due("n 21", x.drawn(1, 2101, 0), BAD);
        due("n 20", x.drawn(1, 2199, 0), BAD);
        due("m 0", x.drawn(1, 500, 0), BAD);
        due("nm -101", x.drawn(1, -101, 0), BAD);
        due("nm MIN", x.drawn(1, MIN, 0), BAD);
        due("what -1", x.drawn(1, 101, -1), BAD);
        due("what 2", x.drawn(1, 101, 2), BAD);
    }

    /** By the law "a" one farm's 1 is rung a minute later, unless it rains. */
    private static int drawnDays(int seed, int days, int minutes, int rains, int what) {
        int z = seed;
        int rung = 0;
        int ended = 0;
        for (int d = 0; d < days; d++) {
            boolean rings = true;
            for (int m = 0; m < minutes; m++) {
                rung += rings ? 1 : 0;
                ended += m == minutes - 1 && !rings ? 1 : 0;
                z = z * 1103515245 + 12345;
                rings = (z >>> 8) % 12 >= rains;
            }
        }
        return what == 0 ? rung : ended;
    }

    // ---- promises 28 to 35

    private static void inDeed() {
        promise = 28;
        pass();
        promise = 29;
        tell();
        promise = 30;
        day();
        promise = 31;
        led();
        promise = 32;
        image();
        promise = 33;
        back();
        promise = 34;
        undo();
        promise = 35;
        redo();
    }

    private static void pass() {
        RungByHeart x = scale();
        for (int m = 1; m <= 300; m++) {
            due("minute " + m, x.pass(), m % 4);
        }
        due("NOW is 300", x.pass(), STATE);
        due("of(0, 10)", x.of(0, 10), 300);
        due("led(0)", x.led(0), 300);
        due("led(1)", x.led(1), 225);
        x.day();
        due("a new day", x.pass(), 1);
        RungByHeart y = fresh();
        y.farm(1, 0);
        begins(y, 2);
        due("minute 1", y.pass(), 0);
        begins(y, 3);
        due("it was 2 that was rung", y.pass(), 2);
        due("minute 3", y.pass(), 0);
        y.mend(0, 0, 0);
        due("FAR 0 from now on", y.pass(), 0);
        y.mend(0, 0, 2);
        due("it hears what was rung in deed", y.pass(), 2);
        lawOf(y, "m=6?g;0");
        due("m and g in deed", y.pass(), 1);
        due("the law counts at once", y.pass(), 0);
    }

    private static void tell() {
        RungByHeart x = withLaw("a+b*2+c*3");
        due("no farm", x.tell(0, 0), BAD);
        x.farm(0, 0);
        x.farm(1, 0);
        due("sign -1", x.tell(0, -1), BAD);
        due("sign 4", x.tell(0, 4), BAD);
        due("farm 2", x.tell(2, 0), BAD);
        due("farm -1", x.tell(-1, 0), BAD);
        due("what it would do", x.tell(0, 3), 1);
        due("what it would do", x.tell(1, 0), 0);
        due("it does that instead", x.pass(), 3);
        due("for the minute NOW alone", x.tell(0, 0), 3);
        due("the other hears minute 0", x.pass(), 1);
        due("told the sign it would do", x.tell(0, 1), 1);
        due("told again: what it was told before", x.tell(0, 3), 1);
        due("told a third time", x.tell(0, 2), 3);
        due("what was not to be told is not kept", x.tell(0, 4), BAD);
        due("still what it was told", x.tell(0, 2), 2);
        due("the other by its KIND", x.tell(1, 0), 3);
        due("the other told 0", x.tell(1, 1), 0);
        due("the latest counts", x.pass(), 3);
        due("told is over: what it hears", x.tell(0, 0), 3);
        due("led(2)", x.led(2), 10);
        x.day();
        due("the new day's own doing", x.tell(0, 3), 1);
        x.image();
        due("told in the image", x.tell(0, 0), 3);
        x.back();
        due("the image keeps what was told", x.tell(0, 0), 3);
        x.mend(0, 1, 1);
        due("told goes ahead of its KIND", x.tell(0, 2), 0);
        x.mend(0, 1, 0);
        due("a new day forgets it", x.day(), 0);
        due("told for naught", x.pass(), 1);
        x.day();
        begins(x, 2);
        due("BEGINS as it is", x.tell(0, 2), 2);
        due("thought is no deed", x.does(0, 0), 2);
    }

    private static void day() {
        RungByHeart x = fresh();
        sham(x, 2);
        due("NOW was 0", x.day(), 0);
        x.pass();
        x.pass();
        due("of(0, 11)", x.of(0, 11), 2);
        due("NOW was 2", x.day(), 2);
        due("of(0, 10)", x.of(0, 10), 0);
        due("BEGINS is rung", x.of(0, 11), 1);
        begins(x, 3);
        due("as it is", x.of(0, 11), 3);
        due("led(3)", x.led(3), 2);
        due("led(0)", x.led(0), 2);
        lawOf(x, "g");
        due("g begins anew", x.pass(), 1);
        due("NOW was 1", x.day(), 1);
    }

    private static void led() {
        RungByHeart x = fresh();
        due("led(-1)", x.led(-1), BAD);
        due("led(5)", x.led(5), BAD);
        x.farm(1, 0);
        x.tell(0, 2);
        x.pass();
        x.pass();
        x.pass();
        // 1 2 1 0: told, hears minute 0, hears .. minute 1
        due("minutes", x.led(0), 3);
        due("strokes", x.led(1), 3);
        due("FARMS told", x.led(2), 1);
        due("days", x.led(3), 0);
        due("rung NOW", x.led(4), 2);
        lawOf(x, "0");
        x.pass();
        due("no stroke", x.led(1), 3);
        due("rung NOW", x.led(4), 0);
        x.day();
        due("days", x.led(3), 1);
        due("minutes of all days", x.led(0), 4);
        due("BEGINS NOW", x.led(4), 1);
        x.pass();
        due("minutes of all days", x.led(0), 5);
        due("strokes of all days", x.led(1), 3);
        due("FARMS told on all days", x.led(2), 1);
    }

    private static void image() {
        RungByHeart x = fresh();
        due("NOW", x.image(), 0);
        sham(x, 2);
        x.pass();
        due("NOW", x.image(), 1);
        x.pass();
        due("the latest image", x.back(), 1);
        due("an image keeps no numbers", x.of(0, 3), 2);
        x.mend(0, 3, 3);
        due("an image keeps no numbers", x.back() * 10 + x.of(0, 3), 13);
    }

    private static void back() {
        RungByHeart x = withLaw("a+b*2+c*3");
        due("there is none", x.back(), STATE);
        x.farm(1, 0);
        x.pass();
        x.pass();
        x.tell(0, 3);
        due("image()", x.image(), 2);
        due("told", x.pass(), 3);
        x.tell(0, 2);
        x.pass();
        x.day();
        x.day();
        due("NOW", x.back(), 2);
        due("of(0, 10)", x.of(0, 10), 2);
        due("of(0, 11)", x.of(0, 11), 1);
        due("led(0)", x.led(0), 2);
        due("led(1)", x.led(1), 1);
        due("led(2)", x.led(2), 1);
        due("led(3)", x.led(3), 0);
        due("what was told", x.pass(), 3);
        due("what was rung", x.pass(), 1);
        due("laid back again", x.back(), 2);
        due("what was told", x.pass(), 3);
        RungByHeart y = fresh();
        y.image();
        y.pass();
        begins(y, 3);
        due("NOW is 0", y.back(), 0);
        due("BEGINS as it is", y.of(0, 11), 3);
        lawOf(y, "g");
        y.pass();
        y.pass();
        y.image();
        y.pass();
        y.back();
        due("how long the same was rung", y.pass(), 2);
    }

    private static void undo() {
        RungByHeart x = fresh();
        x.farm(3, 0);
        due("none", x.undo(), STATE);
        x.mend(0, 0, 4);
        x.mend(0, 5, 7);
        x.mend(0, 5, 7);
        x.mend(0, 5, 99);
        due("the same and BAD are none", x.count(2), 2);
        due("undo()", x.undo(), 1);
        due("of(0, 5)", x.of(0, 5), 1);
        due("of(0, 0)", x.of(0, 0), 4);
        due("undo()", x.undo(), 0);
        due("of(0, 0)", x.of(0, 0), 3);
        due("none", x.undo(), STATE);
        x.pass();
        x.day();
        x.image();
        due("deeds are none", x.undo(), STATE);
        for (int i = 0; i < 45; i++) {
            due("mend", x.mend(0, 2, i + 1), i);
        }
        due("40 at most", x.count(2), 40);
        for (int i = 39; i >= 0; i--) {
            due("undo()", x.undo(), i);
            due("of(0, 2)", x.of(0, 2), i + 5);
        }
        due("none", x.undo(), STATE);
        due("of(0, 2)", x.of(0, 2), 5);
        undoOfMany();
    }

    /** 20, 21 .. into AT and RESTS by turns of three: the oldest drop out, the others stay in their order. */
    private static void undoOfMany() {
        RungByHeart x = fresh();
        x.farm(0, 0);
        for (int i = 1; i <= 44; i++) {
            if (i % 3 == 0) {
                x.mend(0, 4, i / 3 % 10);
            } else {
                x.mend(0, 2, i);
            }
        }
        for (int i = 44; i > 4; i--) {
            due("undo()", x.undo(), i - 5);
            int at = (i - 1) % 3 == 0 ? i - 2 : i - 1;
            due("AT, behind change " + (i - 1), x.of(0, 2), at);
            due("RESTS, behind change " + (i - 1), x.of(0, 4), (i - 1) / 3 % 10);
        }
        due("the first four stay", x.undo(), STATE);
        for (int i = 5; i <= 44; i++) {
            due("redo()", x.redo(), 44 - i);
            due("AT, with change " + i, x.of(0, 2), i % 3 == 0 ? i - 1 : i);
            due("RESTS, with change " + i, x.of(0, 4), i / 3 % 10);
        }
    }

    private static void redo() {
        RungByHeart x = fresh();
        x.farm(3, 0);
        due("none", x.redo(), STATE);
        x.mend(0, 4, 5);
        x.mend(0, 7, 6);
        x.mend(0, 1, 2);
        due("none", x.redo(), STATE);
        x.undo();
        x.undo();
        due("redo()", x.redo(), 1);
        due("of(0, 7)", x.of(0, 7), 6);
        due("of(0, 1)", x.of(0, 1), 0);
        due("count(2)", x.count(2), 2);
        due("the same is no change", x.mend(0, 4, 5), 5);
        due("a farm is no change", x.farm(0, 0), 1);
        due("redo()", x.redo(), 0);
        due("of(0, 1)", x.of(0, 1), 2);
        due("none", x.redo(), STATE);
        x.undo();
        x.undo();
        x.mend(0, 2, 8);
        due("another came behind", x.redo(), STATE);
        due("count(2)", x.count(2), 2);
        due("undo()", x.undo(), 1);
        due("of(0, 2)", x.of(0, 2), 0);
        due("undo()", x.undo(), 0);
        due("of(0, 4)", x.of(0, 4), 0);
        due("redo()", x.redo(), 1);
        due("redo()", x.redo(), 0);
        due("of(0, 2)", x.of(0, 2), 8);
        for (int i = 0; i < 41; i++) {
            x.mend(1, 2, i + 1);
        }
        due("undo()", x.undo(), 39);
        due("redo()", x.redo(), 0);
        due("of(1, 2)", x.of(1, 2), 41);
    }

    // ---- promises 36 to 45

    private static void actsAndShelves() {
        promise = 36;
        body();
        promise = 37;
        act();
        promise = 38;
        trace();
        promise = 39;
        keep();
        promise = 40;
        row();
        promise = 41;
        put();
        promise = 42;
        element();
        promise = 43;
        shift();
        promise = 44;
        taken();
        promise = 45;
        count();
    }

    private static void body() {
        RungByHeart x = fresh();
        due("body(-1)", x.body(-1), BAD);
        due("body(8)", x.body(8), BAD);
        for (int i = 0; i < 50; i++) {
            due("body", x.body(i % 8), i);
        }
        due("body, the 51st", x.body(0), FULL);
        due("body, BAD ahead of FULL", x.body(8), BAD);
        due("count(3)", x.count(3), 50);
        x.keep(0, 49);
        due("the kind of 49", x.taken(0, 0), 1);
    }

    /** One of each kind, of the numbers 0 .. 7. */
    private static RungByHeart strokes() {
        RungByHeart x = fresh();
        for (int kind = 0; kind < 8; kind++) {
            x.body(kind);
        }
        return x;
    }

    private static void act() {
        RungByHeart x = strokes();
        // By KIND, with x 10: rings, hears, does, tells; n is the KIND's number here.
        int[][] told = {
            // STROKE: 10 + 0; * 2; 10 ^ 0; 20 - (1 ^ 0)
            {10, 20, 10, 19},
            // HAT: 10 + 1 + 3; * 2; 10 ^ 1; 28 - (1 ^ 1)
            {14, 28, 11, 28},
            // KNEE: 10 + 2; -24; 10 ^ 2; -24 - (1 ^ 2)
            {12, -24, 8, -27},
            // LYING: 13; -(14 * 2); (10 ^ 3) * 3; -28 - (1 ^ 3) * 3
            {13, -28, 27, -34},
            // DOG: 10 + 4 + 3; * 2; (10 ^ 4) - 9; 34 - ((1 ^ 4) - 9)
            {17, 34, 5, 38},
            // SHAM: 15; -(16 * 2); (10 ^ 5) * 3; (-32 - (1 ^ 5) * 3) ^ 5
            {15, -32, 45, -44 ^ 5},
            // DEAF: 32; 64; 10 ^ 6; 64 - (1 ^ 6)
            {32, 64, 12, 57},
            // MOURNER: 20; 40 + does(2); does: (10 ^ 7) - 12; hears - ((1 ^ 7) - 12) - 1
            {20, 40 + 5 - 12, 13 - 12, 33 - (6 - 12) - 1}};
        for (int kind = 0; kind < 8; kind++) {
            for (int act = 0; act < 4; act++) {
                due("act(" + kind + ", " + act + ", 10)", x.act(kind, act, 10), told[kind][act]);
            }
        }
        due("an int wraps", x.act(1, 0, MAX), MIN + 3);
        due("an int wraps", x.act(0, 1, MAX), -2);
        due("x -1", x.act(3, 2, -1), -12);
        due("MIN", x.act(2, 1, MIN + 1), -6);
        due("no such stroke", x.act(8, 0, 5), 0);
        due("no such stroke", x.act(-1, 0, 5), 0);
        due("no such act", x.act(0, 4, 5), 0);
        due("no such act", x.act(0, -1, 5), 0);
    }

    private static void trace() {
        RungByHeart x = strokes();
        int[][][] told = {
            {{1}, {10, 1}, {11}, {2, 10, 1, 11}},
            {{20, 1}, {10, 20, 1}, {11}, {2, 10, 20, 1, 11}},
            {{1}, {30, 10, 1}, {11}, {2, 30, 10, 1, 11}},
            {{1}, {41, 30, 10, 1}, {40, 11}, {2, 41, 30, 10, 1, 40, 11}},
            {{20, 1}, {10, 20, 1}, {50, 11, 20, 1}, {2, 10, 20, 1, 50, 11, 20, 1}},
            {{1}, {41, 30, 10, 1}, {40, 11}, {60, 2, 41, 30, 10, 1, 40, 11}},
            {{70, 1}, {10, 70, 1}, {11}, {2, 10, 70, 1, 11}},
            {{20, 1}, {80, 10, 20, 1, 50, 11, 20, 1}, {50, 11, 20, 1},
                {81, 2, 80, 10, 20, 1, 50, 11, 20, 1, 50, 11, 20, 1}}};
        for (int kind = 0; kind < 8; kind++) {
            for (int act = 0; act < 4; act++) {
                x.act(kind, act, 3);
                int[] ran = told[kind][act];
                due("count(4)", x.count(4), ran.length);
                for (int i = 0; i < ran.length; i++) {
                    due("trace(" + i + ") of act(" + kind + ", " + act + ")", x.trace(i), ran[i]);
                }
                due("trace, behind it", x.trace(ran.length), BAD);
            }
        }
        due("trace(-1)", x.trace(-1), BAD);
        due("trace(24)", x.trace(24), BAD);
        due("trace(MAX)", x.trace(MAX), BAD);
        x.act(0, 4, 0);
        due("no TRACE then", x.trace(0), BAD);
        due("no TRACE then", x.count(4), 0);
        x.act(0, 0, 0);
        x.act(9, 0, 0);
        due("no TRACE then", x.trace(0), BAD);
    }

    private static void keep() {
        RungByHeart x = fresh();
        due("no such stroke", x.keep(0, 0), BAD);
        due("body -2", x.keep(0, -2), BAD);
        due("nothing", x.keep(0, -1), 1);
        x.body(3);
        due("shelf -1", x.keep(-1, 0), BAD);
        due("shelf 6", x.keep(6, -1), BAD);
        due("keep(5, 0)", x.keep(5, 0), 1);
        due("its kind", x.taken(5, 0), 3);
        due("body 1", x.keep(5, 1), BAD);
        due("it stays", x.taken(5, 0), 3);
        due("nothing", x.keep(5, -1), 1);
        due("nothing there", x.taken(5, 0), NOTHING);
        bytes(x, 5, 1, 2);
        due("a stroke for a row", x.keep(5, 0), 1);
        due("no row any more", x.put(5, 0, 1), OTHER);
    }

    private static void row() {
        RungByHeart x = fresh();
        due("shelf -1", x.row(-1, 0, 1), BAD);
        due("shelf 6", x.row(6, 0, 1), BAD);
        due("sort -1", x.row(0, -1, 1), BAD);
        due("sort 5", x.row(0, 5, 1), BAD);
        due("n 61", x.row(0, 0, 61), BAD);
        due("n MAX", x.row(0, 0, MAX), BAD);
        due("n -1", x.row(0, 0, -1), SIZE);
        due("n MIN", x.row(0, 0, MIN), SIZE);
        due("BAD ahead of -14", x.row(0, 5, -1), BAD);
        due("it still holds nothing", x.put(0, 0, 1), NOTHING);
        due("row(0, 4, 60)", x.row(0, 4, 60), 1);
        due("element 59", x.element(0, 59), 0);
        due("element 60", x.element(0, 60), Long.MIN_VALUE);
        x.put(0, 59, 1);
        due("another row", x.row(0, 3, 60), 1);
        due("0 at first", x.element(0, 59), 0);
        due("row(0, 3, 0)", x.row(0, 3, 0), 1);
        due("no place", x.put(0, 0, 1), PLACE);
        due("a bad one changes nothing", x.row(0, 0, -5), SIZE);
        due("no place", x.put(0, 0, 1), PLACE);
    }

    private static void put() {
        RungByHeart x = fresh();
        due("nothing there", x.put(0, 0, 1), NOTHING);
        due("shelf -1", x.put(-1, 0, 1), BAD);
        due("shelf 6", x.put(6, 0, 1), BAD);
        x.body(0);
        x.keep(0, 0);
        due("a stroke", x.put(0, 0, 1), OTHER);
        due("-12 ahead of -13", x.put(0, -1, 1), OTHER);
        long v = 0x1234567890ABCDEFL;
        long[] lowest = {(byte) 0xEF, (short) 0xCDEF, 0x90ABCDEF, v, 1};
        for (int sort = 0; sort < 5; sort++) {
            x.row(1, sort, 3);
            due("put", x.put(1, 2, v), 1);
            due("its lowest bits", x.element(1, 2), lowest[sort]);
            due("put -1", x.put(1, 2, -1), 1);
            due("-1", x.element(1, 2), sort == 4 ? 1 : -1);
            due("put 2^40", x.put(1, 2, 1L << 40), 1);
            due("2^40", x.element(1, 2), sort == 3 ? 1L << 40 : sort == 4 ? 1 : 0);
            due("put 0", x.put(1, 2, 0), 1);
            due("0", x.element(1, 2), 0);
            due("i -1", x.put(1, -1, 1), PLACE);
            due("i 3", x.put(1, 3, 1), PLACE);
            due("i MAX", x.put(1, MAX, 1), PLACE);
            due("the others stay", x.element(1, 0) + x.element(1, 1), 0);
        }
    }

    private static void element() {
        RungByHeart x = fresh();
        long no = Long.MIN_VALUE;
        due("nothing there", x.element(0, 0), no);
        due("shelf -1", x.element(-1, 0), no);
        due("shelf 6", x.element(6, 0), no);
        x.body(0);
        x.keep(0, 0);
        due("a stroke", x.element(0, 0), no);
        x.row(0, 3, 2);
        due("i -1", x.element(0, -1), no);
        due("i 2", x.element(0, 2), no);
        due("0 at first", x.element(0, 1), 0);
        x.put(0, 1, Long.MAX_VALUE);
        due("a long", x.element(0, 1), Long.MAX_VALUE);
        due("beside it", x.element(0, 0), 0);
        bytes(x, 1, 127, 128, 255, -128);
        due("127", x.element(1, 0), 127);
        due("128", x.element(1, 1), -128);
        due("255", x.element(1, 2), -1);
        due("-128", x.element(1, 3), -128);
    }

    private static void shift() {
        RungByHeart x = fresh();
        bytes(x, 0, 1, 2, 3, 4, 5);
        due("nothing there", x.shift(0, 0, 1, 0, 1), NOTHING);
        due("nothing there", x.shift(1, 0, 0, 0, 1), NOTHING);
        due("shelf -1", x.shift(-1, 0, 0, 0, 1), BAD);
        due("shelf 6", x.shift(0, 0, 6, 0, 1), BAD);
        x.body(0);
        x.keep(2, 0);
        due("-11 ahead of -12", x.shift(2, 0, 1, 0, 1), NOTHING);
        due("a stroke", x.shift(2, 0, 0, 0, 1), OTHER);
        due("a stroke", x.shift(0, 0, 2, 0, 1), OTHER);
        due("two strokes", x.shift(2, 0, 2, 0, 1), OTHER);
        x.row(1, 1, 5);
        due("unlike sorts", x.shift(0, 0, 1, 0, 1), OTHER);
        due("-12 ahead of -13", x.shift(0, -1, 1, 0, 1), OTHER);
        x.row(1, 0, 3);
        int[][] off = {{-1, 0, 1}, {0, -1, 1}, {0, 0, -1}, {0, 0, 4}, {3, 0, 3}, {0, 1, 3}, {6, 0, 0}, {0, 4, 0}, {MAX, 0, 1},
            {1, 0, MAX}, {0, MAX, 1}, {MIN, 0, 0}, {0, 0, MIN}, {2, 2, MAX - 1}};
        for (int[] o : off) {
            due("a place that is not there", x.shift(0, o[0], 1, o[1], o[2]), PLACE);
        }
        due("it came not", x.element(1, 0) + x.element(1, 2), 0);
        due("none, at the ends", x.shift(0, 5, 1, 3, 0), 0);
        due("to another", x.shift(0, 2, 1, 0, 3), 3);
        due("345", x.element(1, 0) * 100 + x.element(1, 1) * 10 + x.element(1, 2), 345);
        due("up in the same", x.shift(0, 0, 0, 1, 4), 4);
        due("11234", five(x), 11234);
        due("down in the same", x.shift(0, 2, 0, 0, 3), 3);
        due("23434", five(x), 23434);
    }

    private static long five(RungByHeart x) {
        long all = 0;
        for (int i = 0; i < 5; i++) {
            all = all * 10 + x.element(0, i);
        }
        return all;
    }

    private static void taken() {
        RungByHeart x = strokes();
        due("nothing there", x.taken(0, 0), NOTHING);
        due("shelf -1", x.taken(-1, 0), BAD);
        due("shelf 6", x.taken(6, 0), BAD);
        due("k -1", x.taken(0, -1), BAD);
        due("k 8", x.taken(0, 8), BAD);
        x.row(0, 2, 4);
        due("a row", x.taken(0, 0), OTHER);
        // By KIND, the KINDS (bits) it may be taken for.
        int[] may = {1, 3, 5, 13, 19, 45, 65, 147};
        for (int kind = 0; kind < 8; kind++) {
            x.keep(0, kind);
            for (int k = 0; k < 8; k++) {
                due("kind " + kind + " for " + k, x.taken(0, k), (may[kind] >> k & 1) == 1 ? kind : OTHER);
            }
        }
    }

    private static void count() {
        RungByHeart x = strokes();
        due("count(-1)", x.count(-1), BAD);
        due("count(5)", x.count(5), BAD);
        x.farm(0, 0);
        x.farm(0, 0);
        x.feed('a');
        x.mend(0, 0, 1);
        x.mend(0, 0, 2);
        x.mend(0, 0, 3);
        x.undo();
        x.act(7, 3, 1);
        due("FARMS", x.count(0), 2);
        due("bytes", x.count(1), 1);
        due("changes", x.count(2), 2);
        due("BODIES", x.count(3), 8);
        due("bodies that ran", x.count(4), 14);
    }
}
