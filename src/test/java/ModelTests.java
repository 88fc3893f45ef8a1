import java.util.ArrayList;
import java.util.List;

/**
 * Long runs of drawn calls, each answered by the class and by a second, plainer telling of the
 * document (class Model), which works out every day anew from its words, without care for time.
 */
public final class ModelTests {
    private static final int OBJECTS = 260;
    private static final int CALLS = 512;
    private static int wrong = 0;
    private static int z = 20261118;

    private static int draw(int below) {
        z = z * 1664525 + 1013904223;
        return (z >>> 9) % below;
    }

    /** Mostly a number in lo .. hi, at times one just outside, seldom one far off. */
    private static int near(int lo, int hi) {
        int way = draw(40);
        if (way == 0) {
            return lo - 1;
        }
        if (way == 1) {
            return hi + 1;
        }
        if (way == 2) {
            int[] far = {Integer.MIN_VALUE, Integer.MAX_VALUE, -1000, 1000, Integer.MAX_VALUE - 2};
            return far[draw(far.length)];
        }
        return lo + draw(hi - lo + 1);
    }

    public static void main(String[] args) {
        for (int o = 0; o < OBJECTS && wrong < 20; o++) {
            new Run(o).play();
        }
        System.out.println(wrong == 0 ? "the class and the model answer alike" : wrong + " answers are unlike");
        if (wrong != 0) {
            System.exit(1);
        }
    }

    /** One object's life beside its model's. */
    private static final class Run {
        private final int number;
        private final RungByHeart x = new RungByHeart();
        private final Model y = new Model();
        private int calls = 0;
        private boolean parted = false;

        Run(int number) {
            this.number = number;
        }

        void play() {
            if (number % 3 == 1) {
                someFarms(1 + draw(6));
            }
            if (number % 3 == 2) {
                text(law(draw(3) == 0));
                someFarms(2 + draw(9));
            }
            while (calls < CALLS && !parted) {
                step();
            }
        }

        private void call(String name, long... a) {
            if (calls >= CALLS || parted) {
                return;
            }
            calls++;
            long got = Calls.ofClass(x, name, a);
            long want = Calls.ofModel(y, name, a);
            if (got != want) {
                wrong++;
                parted = true;
                StringBuilder told = new StringBuilder();
                for (long v : a) {
                    told.append(told.length() == 0 ? "" : ", ").append(v);
                }
                System.out.println("object " + number + ", call " + calls + ": " + name + "(" + told + ") answered "
                    + got + ", the model says " + want);
            }
        }

        private void someFarms(int many) {
            for (int i = 0; i < many; i++) {
                call("farm", draw(4), draw(6));
                call("mend", i, 2, draw(2) == 0 ? draw(6) : draw(100));
                call("mend", i, 3, draw(4));
                call("mend", i, 4, draw(10));
            }
        }

        private void text(String t) {
            for (int i = 0; i < t.length(); i++) {
                call("feed", t.charAt(i));
            }
            call("law");
        }

        private void step() {
            int farms = Math.max(1, y.farms.size());
            int hi = farms - 1;
            int shelf = draw(20) == 0 ? near(0, 5) : draw(4);
            switch (draw(46)) {
                case 0: call("farm", near(0, 9), near(0, 5)); break;
                case 1: bytesForFarms(); break;
                case 2: case 3: case 4: mend(hi); break;
                case 5: call("of", draw(2) == 0 ? 0 : near(0, hi), near(0, 11)); break;
                case 6: call("feed", near(0, 255)); break;
                case 7: text(draw(3) == 0 ? spoilt(law(true)) : law(true)); break;
                case 8: call("rung", near(0, 300)); break;
                case 9: call("does", near(0, hi), near(0, 300)); break;
                case 10: call("signs", near(0, 300), near(0, 3)); break;
                case 11: call("round", near(0, 1)); break;
                case 12: call("ends"); break;
                case 13: call("often", near(0, 300), near(0, 3), near(0, 1)); break;
                case 14: call("late", shelf, near(0, 300), near(0, 1)); break;
                case 15: call("spare", near(0, 1)); break;
                case 16: call("send", near(0, 300), near(0, 1)); break;
                case 17: call("changesIt", 10 * near(0, hi) + near(0, 3), near(0, 300)); break;
                case 18: call("byWhom", near(0, 300)); break;
                case 19: call("church", 10 * near(0, (1 << farms) - 1) + near(0, 3), near(0, 300), near(0, 1)); break;
                case 20: call("alike", 10 * near(0, (1 << farms) - 1) + near(0, 3), near(-1, 300)); break;
                case 21: seenRow(hi); break;
                case 22: rungRow(); break;
                case 23: call("judge", shelf, near(0, hi)); break;
                case 24: call("kinds", shelf, near(0, hi)); break;
                case 25: call("howFar", shelf, near(0, hi)); break;
                case 26: call("which", shelf); break;
                case 27: call("asTold", shelf); break;
                case 28: call("deaf", shelf); break;
                case 29: call("drawn", near(-9, 900), draw(20) == 0 ? near(0, 2100) : 100 * near(1, 20) + near(1, 99), near(0, 1)); break;
                case 30: case 31: passes(); break;
                case 32: call("tell", near(0, hi), near(0, 3)); break;
                case 33: call("day"); break;
                case 34: case 35: call("led", near(0, 4)); break;
                case 36: call(draw(2) == 0 ? "image" : "back"); break;
                case 37: call("undo"); break;
                case 38: call("redo"); break;
                case 39: call("body", near(0, 7)); break;
                case 40: acts(); break;
                case 41: call("keep", shelf, near(-1, Math.max(0, y.strokes.size() - 1))); break;
                case 42: call("row", shelf, near(0, 4), near(0, 60)); break;
                case 43: cells(shelf); break;
                case 44: call("taken", shelf, near(0, 7)); break;
                default: call("count", near(0, 4)); break;
            }
        }

        private void mend(int hi) {
            int what = near(0, 7);
            int most = what >= 0 && what <= 7 ? Model.MOST[what] : 9;
            int number = what > 4 ? (draw(10) == 0 ? 1 : 0) : near(0, hi);
            call("mend", number, what, draw(3) == 0 ? near(0, most) : near(0, Math.min(most, 3)));
        }

        private void passes() {
            int many = draw(12) == 0 ? 60 : 1 + draw(4);
            for (int i = 0; i < many; i++) {
                call("pass");
            }
        }

        private void acts() {
            call("act", near(0, Math.max(0, y.strokes.size() - 1)), near(0, 3), draw(4) == 0 ? z : near(-9, 9));
            call("count", 4);
            for (int i = 0; i < 16; i += 1 + draw(4)) {
                call("trace", i);
            }
            call("trace", near(0, 24));
        }

        private void cells(int shelf) {
            int i = near(0, 9);
            long v = (long) z << draw(33);
            call("put", shelf, i, draw(2) == 0 ? v : near(-2, 4));
            call("element", shelf, i);
            call("shift", shelf, near(0, 8), near(0, 5), near(0, 8), near(0, 6));
            call("element", draw(6), near(0, 12));
        }

        private void bytesForFarms() {
            int shelf = 4 + draw(2);
            if (draw(3) == 0) {
                int n = 1 + draw(8);
                call("row", shelf, draw(8) == 0 ? 1 : 0, n);
                for (int i = 0; i < n; i++) {
                    call("put", shelf, i, near(0, i % 3 == 2 ? 99 : i % 3 == 1 ? 5 : 9));
                }
            }
            call("farms", shelf, near(0, 4), near(1, 4));
        }

        /** What a farm does by some of its numbers otherwise, so that it can be told of which kind it is. */
        private void seenRow(int hi) {
            if (y.farms.isEmpty()) {
                return;
            }
            int f = draw(hi + 1);
            int[] was = y.farms.get(f).clone();
            y.farms.get(f)[draw(2)] = draw(6);
            int[] seen = new int[1 + draw(20)];
            Model.Thought t = y.thought();
            t.run(seen.length);
            for (int m = 0; m < seen.length; m++) {
                seen[m] = draw(5) == 0 ? (draw(2) == 0 ? 4 : -1) : t.does(f, m);
            }
            y.farms.set(f, was);
            int shelf = lay(seen);
            call("judge", shelf, f);
            call("kinds", shelf, f);
            call("howFar", shelf, f);
            call("which", shelf);
        }

        private void rungRow() {
            int set = draw(1 << y.farms.size());
            Model.Thought t = y.thought();
            for (int f = 0; f < t.farms.size(); f++) {
                if ((set >> f & 1) == 1 && draw(2) == 0) {
                    t.farms.get(f)[1] = 1;
                }
            }
            int[] told = new int[draw(25)];
            t.run(Math.max(0, told.length));
            for (int m = 0; m < told.length; m++) {
                told[m] = draw(60) == 0 ? 4 - draw(6) : t.rung[0][m];
            }
            int shelf = lay(told);
            call("asTold", shelf);
            call("deaf", shelf);
            call("late", shelf, near(0, 40), 0);
            call("late", shelf, near(0, 40), 1);
        }

        private int lay(int[] bytes) {
            int shelf = draw(4);
            call("row", shelf, 0, bytes.length);
            for (int i = 0; i < bytes.length; i++) {
                if (bytes[i] != 0) {
                    call("put", shelf, i, bytes[i]);
                }
            }
            return shelf;
        }

        // ---- texts

        private String law(boolean free) {
            if (!free) {
                String[] some = {"a>b?1;b>0?2;c", "r=1?2;1", "g>3?(r+1)%4;r", "m%5=0?1;a|b|c", "a+b+c>1&!(m%7=0)?r;0*3",
                    "(a*2-b)/c", "m<40?a:0"};
                return some[draw(some.length - 1)];
            }
            StringBuilder t = new StringBuilder();
            int lines = 1 + draw(3);
            for (int i = 0; i < lines; i++) {
                t.append(i == 0 ? "" : ";");
                if (draw(2) == 0) {
                    any(t, 0, 2);
                    t.append('?');
                }
                any(t, 0, 2);
            }
            return t.length() > 60 ? t.substring(0, 60) : t.toString();
        }

        private void any(StringBuilder t, int level, int depth) {
            String[] signs = {"|", "&", "<=>", "+-", "*/%"};
            if (level == 5) {
                operand(t, depth);
                return;
            }
            any(t, level + 1, depth);
            if (draw(4) == 0) {
                t.append(signs[level].charAt(draw(signs[level].length())));
                any(t, level + 1, depth);
            }
        }

        private void operand(StringBuilder t, int depth) {
            int way = draw(depth > 0 ? 8 : 5);
            if (way < 3) {
                t.append("abcrgm".charAt(draw(6)));
            } else if (way < 5) {
                t.append(draw(4) == 0 ? draw(10000) : draw(5));
            } else if (way == 5) {
                t.append('!');
                operand(t, depth - 1);
            } else if (way == 6) {
                t.append('-');
                operand(t, depth - 1);
            } else {
                t.append('(');
                any(t, 0, depth - 1);
                t.append(')');
            }
        }

        private String spoilt(String t) {
            String signs = "abcrgm0123456789|&<=>+-*/%!(;?) xz";
            StringBuilder s = new StringBuilder(t);
            int many = 1 + draw(2);
            for (int i = 0; i < many; i++) {
                int at = draw(s.length() + 1);
                char sign = signs.charAt(draw(signs.length()));
                int way = draw(4);
                if (way == 0) {
                    s.insert(at, sign);
                } else if (way == 1 && at < s.length()) {
                    s.deleteCharAt(at);
                } else if (way == 2 && at < s.length()) {
                    s.setCharAt(at, sign);
                } else {
                    s.insert(at, "((!-(!-(".substring(draw(6)));
                }
            }
            return s.length() > 110 ? s.substring(0, 110) : s.toString();
        }
    }

    /** The document told once more: real rows, real kinds under kinds, days by definition. */
    private static final class Model {
        static final int[] MOST = {9, 5, 99, 3, 9, 10, 3, 12};
        final List<int[]> farms = new ArrayList<>();
        final int[] common = {1, 1, 0};
        String law = null;
        StringBuilder tape = new StringBuilder();
        final Object[] shelves = new Object[6];
        final List<Stroke> strokes = new ArrayList<>();
        List<Integer> ran = new ArrayList<>();
        final List<int[]> undone = new ArrayList<>();
        final List<int[]> done = new ArrayList<>();
        Deed deed = new Deed();
        Deed image = null;

        static final class Deed {
            List<Integer> rung = new ArrayList<>();
            int[] told = {-1, -1, -1, -1, -1, -1, -1, -1, -1, -1};
            int minutes = 0;
            int strokes = 0;
            int tellings = 0;
            int days = 0;

            Deed copy() {
                Deed d = new Deed();
                d.rung = new ArrayList<>(rung);
                d.told = told.clone();
                d.minutes = minutes;
                d.strokes = strokes;
                d.tellings = tellings;
                d.days = days;
                return d;
            }

            int now() {
                return Math.max(0, rung.size() - 1);
            }
        }

        static boolean in(long v, long lo, long hi) {
            return v >= lo && v <= hi;
        }

        // ---- a day in thought, of two churches (the second unheard where the set is empty)

        final class Thought {
            final List<int[]> farms = new ArrayList<>();
            final int[][] rung = new int[2][301];
            final int[] begins = {common[1], 0};
            boolean[] rain = new boolean[301];
            int set = 0;
            int otherFarm = -1;
            int otherMinute = -1;
            int otherSign = 0;

            int heard(int f, int minute) {
                return minute < 0 ? 0 : rung[set >> f & 1][minute];
            }

            int does(int f, int m) {
                if (rain[m]) {
                    return 0;
                }
                return f == otherFarm && m == otherMinute ? otherSign : byKind(f, m);
            }

            int byKind(int f, int m) {
                int[] n = farms.get(f);
                int hears = heard(f, m - n[0]);
                if (n[1] == 0) {
                    return hears;
                } else if (n[1] == 1) {
                    return 0;
                } else if (n[1] == 2) {
                    return new int[] {0, 2, 1, 3}[hears];
                } else if (n[1] == 3) {
                    return m % (n[2] + 1) == 0 ? n[3] : 0;
                } else if (n[1] == 4) {
                    return heard(f, m - n[0] - n[4]);
                }
                return m < n[2] ? hears : n[3];
            }

            int[] counts(int m) {
                int[] c = new int[4];
                for (int f = 0; f < farms.size(); f++) {
                    c[does(f, m)]++;
                }
                return c;
            }

            void run(int last) {
                rung[0][0] = begins[0];
                rung[1][0] = begins[1];
                for (int m = 1; m <= Math.min(300, last); m++) {
                    int[] c = counts(m - 1);
                    rung[0][m] = next(c, rung[0], m);
                    rung[1][m] = next(c, rung[1], m);
                }
            }

            int ends() {
                for (int from = 0; from <= 300; from++) {
                    boolean silent = true;
                    for (int m = from; m <= 300; m++) {
                        silent &= rung[0][m] == 0;
                    }
                    if (silent) {
                        return from;
                    }
                }
                return -2;
            }
        }

        Thought thought() {
            Thought t = new Thought();
            for (int[] n : farms) {
                t.farms.add(n.clone());
            }
            return t;
        }

        Thought ran(int last) {
            Thought t = thought();
            t.run(last);
            return t;
        }

        Thought deafDay(int set) {
            Thought t = thought();
            for (int f = 0; f < farms.size(); f++) {
                if ((set >> f & 1) == 1) {
                    t.farms.get(f)[1] = 1;
                }
            }
            t.run(300);
            return t;
        }

        int next(int[] c, int[] rung, int m) {
            if (law != null) {
                int g = 1;
                while (m - 1 - g >= 0 && rung[m - 1 - g] == rung[m - 1]) {
                    g++;
                }
                int v = new Worked(law, c, rung[m - 1], g, m).text();
                return v < 0 ? 0 : v > 3 ? 3 : v;
            }
            int most = Math.max(c[1], Math.max(c[2], c[3]));
            if (most < common[0] || most < 1) {
                return 0;
            }
            return c[1] == most ? 1 : c[2] == most ? 2 : 3;
        }

        // ---- texts: a stack of what is open tells the fault

        static int fault(String t) {
            List<Character> open = new ArrayList<>();
            List<Boolean> compared = new ArrayList<>();
            boolean wants = true;
            boolean used = false;
            boolean asked = false;
            int digits = 0;
            for (int i = 0; i < t.length(); i++) {
                char s = t.charAt(i);
                if (wants && (s == '!' || s == '-' || s == '(')) {
                    if (open.size() == 6) {
                        return i;
                    }
                    open.add(s);
                    if (s == '(') {
                        compared.add(used);
                        used = false;
                    }
                } else if (wants) {
                    if ("abcrgm0123456789".indexOf(s) < 0) {
                        return i;
                    }
                    digits = Character.isDigit(s) ? 1 : 0;
                    wants = false;
                    shut(open);
                } else if (s >= '0' && s <= '9') {
                    if (digits == 0 || digits == 4) {
                        return i;
                    }
                    digits++;
                } else if (s == ')') {
                    if (open.isEmpty()) {
                        return i;
                    }
                    open.remove(open.size() - 1);
                    used = compared.remove(compared.size() - 1);
                    shut(open);
                    digits = 0;
                } else {
                    boolean compares = "<=>".indexOf(s) >= 0;
                    boolean parts = s == '?' || s == ';';
                    if ("|&<=>+-*/%?;".indexOf(s) < 0 || compares && used || parts && !open.isEmpty() || s == '?' && asked) {
                        return i;
                    }
                    used = compares || used && "+-*/%".indexOf(s) >= 0;
                    asked = s == '?' || asked && s != ';';
                    wants = true;
                }
            }
            return wants || !open.isEmpty() ? t.length() : -1;
        }

        private static void shut(List<Character> open) {
            while (!open.isEmpty() && open.get(open.size() - 1) != '(') {
                open.remove(open.size() - 1);
            }
        }

        static final class Worked {
            private final String text;
            private final int[] c;
            private final int r;
            private final int g;
            private final int m;
            private String e;
            private int p;

            Worked(String text, int[] c, int r, int g, int m) {
                this.text = text;
                this.c = c;
                this.r = r;
                this.g = g;
                this.m = m;
            }

            int text() {
                for (String line : text.split(";")) {
                    String[] parts = line.split("\\?");
                    if (parts.length == 1 || whole(parts[0]) != 0) {
                        return whole(parts[parts.length - 1]);
                    }
                }
                return 0;
            }

            private int whole(String part) {
                e = part;
                p = 0;
                return or();
            }

            private char sign() {
                return p < e.length() ? e.charAt(p) : 0;
            }

            private int or() {
                int v = and();
                while (sign() == '|') {
                    p++;
                    int w = and();
                    v = v != 0 || w != 0 ? 1 : 0;
                }
                return v;
            }

            private int and() {
                int v = compared();
                while (sign() == '&') {
                    p++;
                    int w = compared();
                    v = v != 0 && w != 0 ? 1 : 0;
                }
                return v;
            }

            private int compared() {
                int v = sum();
                char s = sign();
                if (s == '<' || s == '=' || s == '>') {
                    p++;
                    int w = sum();
                    return s == '<' && v < w || s == '=' && v == w || s == '>' && v > w ? 1 : 0;
                }
                return v;
            }

            private int sum() {
                int v = product();
                while (sign() == '+' || sign() == '-') {
                    boolean plus = sign() == '+';
                    p++;
                    int w = product();
                    v = plus ? v + w : v - w;
                }
                return v;
            }

            private int product() {
                int v = operand();
                while (sign() == '*' || sign() == '/' || sign() == '%') {
                    char s = sign();
                    p++;
                    int w = operand();
                    v = s == '*' ? v * w : w == 0 ? 0 : s == '/' ? v / w : v % w;
                }
                return v;
            }

            private int operand() {
                char s = sign();
                p++;
                switch (s) {
                    case '!': return operand() == 0 ? 1 : 0;
                    case '-': return -operand();
                    case '(': int v = or(); p++; return v;
                    case 'a': return c[1];
                    case 'b': return c[2];
                    case 'c': return c[3];
                    case 'r': return r;
                    case 'g': return g;
                    case 'm': return m;
                    default:
                        int from = p - 1;
                        while (Character.isDigit(sign())) {
                            p++;
                        }
                        return Integer.parseInt(e.substring(from, p));
                }
            }
        }

        // ---- farms

        int farm(int far, int kind) {
            if (!in(far, 0, 9) || !in(kind, 0, 5)) {
                return -1;
            }
            if (farms.size() == 10) {
                return -3;
            }
            farms.add(new int[] {far, kind, 0, 1, 0});
            return farms.size() - 1;
        }

        int farms(int shelf, int i, int n) {
            if (!in(shelf, 0, 5) || !in(n, 1, 10)) {
                return -1;
            }
            if (shelves[shelf] != null && !(shelves[shelf] instanceof byte[])) {
                return -12;
            }
            byte[] row = (byte[]) shelves[shelf];
            for (int k = 0; k < n; k++) {
                long at = i + 3L * k;
                if (row == null || at < 0 || at + 2 >= row.length || farms.size() == 10) {
                    return k;
                }
                int p = (int) at;
                if (!in(row[p], 0, 9) || !in(row[p + 1], 0, 5) || !in(row[p + 2], 0, 99)) {
                    return k;
                }
                farms.add(new int[] {row[p], row[p + 1], row[p + 2], 1, 0});
            }
            return n;
        }

        int mend(int number, int what, int v) {
            if (!in(what, 0, 7) || !in(v, 0, MOST[what])) {
                return -1;
            }
            if (what < 5 ? !in(number, 0, farms.size() - 1) : number != 0) {
                return -1;
            }
            int was = get(number, what);
            if (was != v) {
                set(number, what, v);
                done.add(new int[] {number, what, was, v});
                if (done.size() > 40) {
                    done.remove(0);
                }
                undone.clear();
            }
            return was;
        }

        private int get(int number, int what) {
            return what < 5 ? farms.get(number)[what] : common[what - 5];
        }

        private void set(int number, int what, int v) {
            if (what < 5) {
                farms.get(number)[what] = v;
            } else {
                common[what - 5] = v;
            }
        }

        int of(int number, int what) {
            if (what == 10 || what == 11) {
                return number != 0 ? -1 : what == 10 ? deed.now() : rungNow();
            }
            if (!in(what, 0, 7) || (what < 5 ? !in(number, 0, farms.size() - 1) : number != 0)) {
                return -1;
            }
            return get(number, what);
        }

        int feed(int letter) {
            if (!in(letter, 0, 255)) {
                return -1;
            }
            if (tape.length() == 120) {
                return -3;
            }
            tape.append((char) letter);
            return tape.length();
        }

        int law() {
            String t = tape.toString();
            tape = new StringBuilder();
            int fault = fault(t);
            if (fault >= 0) {
                return -100 - fault;
            }
            law = t;
            return 1;
        }

        // ---- days in thought

        int rung(int minute) {
            return in(minute, 0, 300) ? ran(300).rung[0][minute] : -1;
        }

        int does(int farm, int minute) {
            return in(farm, 0, farms.size() - 1) && in(minute, 0, 300) ? ran(300).does(farm, minute) : -1;
        }

        int signs(int minute, int sign) {
            return in(minute, 0, 300) && in(sign, 0, 3) ? ran(300).counts(minute)[sign] : -1;
        }

        int round(int what) {
            if (!in(what, 0, 1)) {
                return -1;
            }
            int[] r = ran(300).rung[0];
            for (int from = 0; from <= 300; from++) {
                for (int len = 1; len <= 60; len++) {
                    boolean anew = from <= 300 - 2 * len;
                    for (int m = from; m <= 300 - len && anew; m++) {
                        anew = r[m] == r[m + len];
                    }
                    if (anew) {
                        return what == 0 ? from : len;
                    }
                }
            }
            return -2;
        }

        int ends() {
            return ran(300).ends();
        }

        int often(int n, int sign, int what) {
            if (!in(n, 0, 300) || !in(sign, 0, 3) || !in(what, 0, 1)) {
                return -1;
            }
            int[] r = ran(300).rung[0];
            int often = 0;
            int longest = 0;
            for (int m = 0; m <= n; m++) {
                often += r[m] == sign ? 1 : 0;
                int to = m;
                while (to <= n && r[to] == sign) {
                    to++;
                }
                longest = Math.max(longest, to - m);
            }
            return what == 0 ? often : longest;
        }

        int late(int shelf, int n, int what) {
            if (!in(shelf, 0, 5) || !in(n, 0, 300) || !in(what, 0, 1)) {
                return -1;
            }
            if (refused(shelf) != 0) {
                return refused(shelf);
            }
            byte[] due = (byte[]) shelves[shelf];
            int[] r = ran(300).rung[0];
            int many = 0;
            int first = -2;
            for (int m = n; m >= 0; m--) {
                if ((m < due.length ? due[m] : 0) != r[m]) {
                    many++;
                    first = m;
                }
            }
            return what == 0 ? many : first;
        }

        private int refused(int shelf) {
            return shelves[shelf] == null ? -11 : shelves[shelf] instanceof byte[] ? 0 : -12;
        }

        int spare(int what) {
            if (!in(what, 0, 1)) {
                return -1;
            }
            int best = -2;
            int least = 1000;
            for (int f = 0; f < farms.size(); f++) {
                int end = deafDay(1 << f).ends();
                end = end < 0 ? 301 : end;
                if (end < least) {
                    least = end;
                    best = f;
                }
            }
            return what == 0 ? best : least >= 301 ? -2 : least;
        }

        int send(int m, int what) {
            if (!in(m, 0, 300) || !in(what, 0, 1)) {
                return -1;
            }
            int least = 99;
            int which = 0;
            for (int set = 0; set < 1 << farms.size(); set++) {
                if (Integer.bitCount(set) > 3 || Integer.bitCount(set) >= least) {
                    continue;
                }
                Thought t = thought();
                for (int f = 0; f < farms.size(); f++) {
                    if ((set >> f & 1) == 1) {
                        t.farms.get(f)[1] = 5;
                        t.farms.get(f)[2] = 0;
                        t.farms.get(f)[3] = 0;
                    }
                }
                t.run(300);
                if (t.ends() >= 0 && t.ends() <= m) {
                    least = Integer.bitCount(set);
                    which = set;
                }
            }
            return least == 99 ? -2 : what == 0 ? least : which;
        }

        int changesIt(int fs, int minute) {
            if (fs < 0 || !in(fs / 10, 0, farms.size() - 1) || fs % 10 > 3 || !in(minute, 0, 300)) {
                return -1;
            }
            Thought t = thought();
            t.otherFarm = fs / 10;
            t.otherSign = fs % 10;
            t.otherMinute = minute;
            t.run(300);
            Thought u = ran(300);
            for (int m = 0; m <= 300; m++) {
                if (t.rung[0][m] != u.rung[0][m]) {
                    return m;
                }
            }
            return -2;
        }

        int byWhom(int minute) {
            if (!in(minute, 0, 300)) {
                return -1;
            }
            int bits = 0;
            for (int f = 0; f < farms.size(); f++) {
                bits |= deafDay(1 << f).rung[0][minute] != rung(minute) ? 1 << f : 0;
            }
            return bits;
        }

        // ---- another church, days seen

        private Thought both(int sb) {
            Thought t = thought();
            t.set = sb / 10;
            t.begins[1] = sb % 10;
            t.run(300);
            return t;
        }

        private boolean noChurch(int sb) {
            return sb < 0 || sb / 10 >= 1 << farms.size() || sb % 10 > 3;
        }

        int church(int sb, int minute, int what) {
            if (noChurch(sb) || !in(minute, 0, 300) || !in(what, 0, 1)) {
                return -1;
            }
            return both(sb).rung[what][minute];
        }

        int alike(int sb, int n) {
            if (noChurch(sb) || !in(n, -1, 300)) {
                return -1;
            }
            int[][] r = both(sb).rung;
            int many = 0;
            int from = -2;
            for (int m = 0; m <= 300; m++) {
                boolean same = r[0][m] == r[1][m];
                many += same && m <= n ? 1 : 0;
                from = !same ? -2 : from == -2 ? m : from;
            }
            return n == -1 ? from : many;
        }

        private boolean so(Thought t, byte[] seen, int farm) {
            return firstUnlike(t, seen, farm) == -2;
        }

        private int firstUnlike(Thought t, byte[] seen, int farm) {
            t.run(300);
            for (int m = 0; m < seen.length; m++) {
                if (in(seen[m], 0, 3) && seen[m] != t.does(farm, m)) {
                    return m;
                }
            }
            return -2;
        }

        private int noSight(int shelf, int farm) {
            return !in(shelf, 0, 5) || !in(farm, 0, farms.size() - 1) ? -1 : refused(shelf);
        }

        int judge(int shelf, int farm) {
            int no = noSight(shelf, farm);
            return no != 0 ? no : firstUnlike(thought(), (byte[]) shelves[shelf], farm);
        }

        int kinds(int shelf, int farm) {
            int no = noSight(shelf, farm);
            if (no != 0) {
                return no;
            }
            int bits = 0;
            for (int k = 0; k < 6; k++) {
                Thought t = thought();
                t.farms.get(farm)[1] = k;
                bits |= so(t, (byte[]) shelves[shelf], farm) ? 1 << k : 0;
            }
            return bits;
        }

        int howFar(int shelf, int farm) {
            int no = noSight(shelf, farm);
            if (no != 0) {
                return no;
            }
            for (int far = 0; far < 10; far++) {
                Thought t = thought();
                t.farms.get(farm)[0] = far;
                if (so(t, (byte[]) shelves[shelf], farm)) {
                    return far;
                }
            }
            return -2;
        }

        int which(int shelf) {
            if (!in(shelf, 0, 5)) {
                return -1;
            }
            if (refused(shelf) != 0) {
                return refused(shelf);
            }
            int bits = 0;
            for (int f = 0; f < farms.size(); f++) {
                bits |= so(thought(), (byte[]) shelves[shelf], f) ? 1 << f : 0;
            }
            return bits;
        }

        private int firstUntold(byte[] told, int[] r) {
            for (int m = 0; m < told.length; m++) {
                if (told[m] != r[m]) {
                    return m;
                }
            }
            return -2;
        }

        int asTold(int shelf) {
            if (!in(shelf, 0, 5)) {
                return -1;
            }
            return refused(shelf) != 0 ? refused(shelf) : firstUntold((byte[]) shelves[shelf], ran(300).rung[0]);
        }

        int deaf(int shelf) {
            if (!in(shelf, 0, 5)) {
                return -1;
            }
            if (refused(shelf) != 0) {
                return refused(shelf);
            }
            for (int set = 0; set < 1 << farms.size(); set++) {
                if (firstUntold((byte[]) shelves[shelf], deafDay(set).rung[0]) == -2) {
                    return set;
                }
            }
            return -2;
        }

        int drawn(int seed, int nm, int what) {
            if (nm < 0 || !in(nm / 100, 1, 20) || nm % 100 == 0 || !in(what, 0, 1)) {
                return -1;
            }
            int s = seed;
            int rang = 0;
            int ended = 0;
            for (int d = 0; d < nm / 100; d++) {
                Thought t = thought();
                for (int m = 0; m < nm % 100; m++) {
                    s = s * 1103515245 + 12345;
                    t.rain[m] = (s >>> 8) % 12 < common[2];
                }
                t.run(nm % 100 - 1);
                for (int m = 0; m < nm % 100; m++) {
                    rang += t.rung[0][m] != 0 ? 1 : 0;
                }
                ended += t.rung[0][nm % 100 - 1] == 0 ? 1 : 0;
            }
            return what == 0 ? rang : ended;
        }

        // ---- in deed

        private int rungNow() {
            return deed.rung.size() < 2 ? common[1] : deed.rung.get(deed.rung.size() - 1);
        }

        private Thought inDeed() {
            Thought t = thought();
            t.rung[0][0] = common[1];
            for (int m = 0; m < deed.rung.size(); m++) {
                t.rung[0][m] = deed.rung.get(m);
            }
            return t;
        }

        int pass() {
            int now = deed.now();
            if (now == 300) {
                return -5;
            }
            if (deed.rung.isEmpty()) {
                deed.rung.add(common[1]);
            }
            Thought t = inDeed();
            int[] c = new int[4];
            for (int f = 0; f < farms.size(); f++) {
                c[deed.told[f] >= 0 ? deed.told[f] : t.does(f, now)]++;
            }
            int sign = next(c, t.rung[0], now + 1);
            deed.rung.add(sign);
            deed.told = new Deed().told;
            deed.minutes++;
            deed.strokes += sign > 0 ? 1 : 0;
            return sign;
        }

        int tell(int farm, int sign) {
            if (!in(farm, 0, farms.size() - 1) || !in(sign, 0, 3)) {
                return -1;
            }
            int told = deed.told[farm];
            deed.told[farm] = sign;
            deed.tellings++;
            return told >= 0 ? told : inDeed().does(farm, deed.now());
        }

        int day() {
            int was = deed.now();
            deed.rung.clear();
            deed.told = new Deed().told;
            deed.days++;
            return was;
        }

        int led(int what) {
            return !in(what, 0, 4) ? -1
                : new int[] {deed.minutes, deed.strokes, deed.tellings, deed.days, rungNow()}[what];
        }

        int image() {
            image = deed.copy();
            return deed.now();
        }

        int back() {
            if (image == null) {
                return -5;
            }
            deed = image.copy();
            return deed.now();
        }

        int undo() {
            if (done.isEmpty()) {
                return -5;
            }
            int[] c = done.remove(done.size() - 1);
            set(c[0], c[1], c[2]);
            undone.add(c);
            return done.size();
        }

        int redo() {
            if (undone.isEmpty()) {
                return -5;
            }
            int[] c = undone.remove(undone.size() - 1);
            set(c[0], c[1], c[3]);
            done.add(c);
            return undone.size();
        }

        // ---- acts, shelves

        int body(int kind) {
            if (!in(kind, 0, 7)) {
                return -1;
            }
            if (strokes.size() == 50) {
                return -3;
            }
            Stroke[] one = {new Stroke(), new Hat(), new Knee(), new Lying(), new Dog(), new Sham(), new Deaf(), new Mourner()};
            one[kind].n = strokes.size();
            one[kind].kind = kind;
            strokes.add(one[kind]);
            return strokes.size() - 1;
        }

        int act(int body, int act, int x) {
            ran = new ArrayList<>();
            if (!in(body, 0, strokes.size() - 1) || !in(act, 0, 3)) {
                return 0;
            }
            Stroke s = strokes.get(body);
            s.ran = ran;
            return act == 0 ? s.rings(x) : act == 1 ? s.hears(x) : act == 2 ? s.does(x) : s.tells(x);
        }

        int trace(int i) {
            return in(i, 0, Math.min(24, ran.size()) - 1) ? ran.get(i) : -1;
        }

        int keep(int shelf, int body) {
            if (!in(shelf, 0, 5) || !in(body, -1, strokes.size() - 1)) {
                return -1;
            }
            shelves[shelf] = body < 0 ? null : strokes.get(body);
            return 1;
        }

        int row(int shelf, int sort, int n) {
            if (!in(shelf, 0, 5) || !in(sort, 0, 4) || n > 60) {
                return -1;
            }
            if (n < 0) {
                return -14;
            }
            switch (sort) {
                case 0: shelves[shelf] = new byte[n]; break;
                case 1: shelves[shelf] = new short[n]; break;
                case 2: shelves[shelf] = new int[n]; break;
                case 3: shelves[shelf] = new long[n]; break;
                default: shelves[shelf] = new boolean[n]; break;
            }
            return 1;
        }

        private long place(int shelf, int i) {
            if (!in(shelf, 0, 5)) {
                return -1;
            }
            if (shelves[shelf] == null) {
                return -11;
            }
            if (shelves[shelf] instanceof Stroke) {
                return -12;
            }
            return in(i, 0, java.lang.reflect.Array.getLength(shelves[shelf]) - 1) ? 1 : -13;
        }

        int put(int shelf, int i, long v) {
            int p = (int) place(shelf, i);
            if (p == 1) {
                Object o = shelves[shelf];
                if (o instanceof byte[]) {
                    ((byte[]) o)[i] = (byte) v;
                } else if (o instanceof short[]) {
                    ((short[]) o)[i] = (short) v;
                } else if (o instanceof int[]) {
                    ((int[]) o)[i] = (int) v;
                } else if (o instanceof long[]) {
                    ((long[]) o)[i] = v;
                } else {
                    ((boolean[]) o)[i] = v != 0;
                }
            }
            return p;
        }

        long element(int shelf, int i) {
            if (place(shelf, i) != 1) {
                return Long.MIN_VALUE;
            }
            Object o = shelves[shelf];
            return o instanceof boolean[] ? (((boolean[]) o)[i] ? 1 : 0) : java.lang.reflect.Array.getLong(o, i);
        }

        int shift(int shelf, int i, int other, int j, int n) {
            if (!in(shelf, 0, 5) || !in(other, 0, 5)) {
                return -1;
            }
            try {
                System.arraycopy(shelves[shelf], i, shelves[other], j, n);
                return n;
            } catch (NullPointerException e) {
                return -11;
            } catch (ArrayStoreException e) {
                return -12;
            } catch (IndexOutOfBoundsException e) {
                return -13;
            }
        }

        int taken(int shelf, int k) {
            if (!in(shelf, 0, 5) || !in(k, 0, 7)) {
                return -1;
            }
            if (shelves[shelf] == null) {
                return -11;
            }
            Class<?>[] kinds = {Stroke.class, Hat.class, Knee.class, Lying.class, Dog.class, Sham.class, Deaf.class, Mourner.class};
            return kinds[k].isInstance(shelves[shelf]) ? ((Stroke) shelves[shelf]).kind : -12;
        }

        int count(int what) {
            return !in(what, 0, 4) ? -1
                : new int[] {farms.size(), tape.length(), done.size(), strokes.size(), ran.size()}[what];
        }
    }

    // ---- strokes, as real kinds under kinds

    private interface Rings {
        int ran(int body);

        int number();

        default int rings(int x) {
            ran(1);
            return x + number();
        }
    }

    private interface Tells {
        int ran(int body);

        int hears(int x);

        int does(int x);

        default int tells(int x) {
            ran(2);
            return hears(x) - does(1);
        }
    }

    private static class Stroke implements Rings, Tells {
        int n;
        int kind;
        List<Integer> ran;

        @Override public int ran(int body) {
            ran.add(body);
            return body;
        }

        @Override public int number() {
            return n;
        }

        @Override public int hears(int x) {
            ran(10);
            return rings(x) * 2;
        }

        @Override public int does(int x) {
            ran(11);
            return x ^ n;
        }
    }

    private static class Hat extends Stroke {
        @Override public int rings(int x) {
            ran(20);
            return super.rings(x) + 3;
        }
    }

    private static class Knee extends Stroke {
        @Override public int hears(int x) {
            ran(30);
            return -super.hears(x);
        }
    }

    private static class Lying extends Knee {
        @Override public int does(int x) {
            ran(40);
            return super.does(x) * 3;
        }

        @Override public int hears(int x) {
            ran(41);
            return super.hears(x + 1);
        }
    }

    private static class Dog extends Hat {
        @Override public int does(int x) {
            ran(50);
            return super.does(x) - rings(2);
        }
    }

    private static class Sham extends Lying {
        @Override public int tells(int x) {
            ran(60);
            return super.tells(x) ^ 5;
        }
    }

    private static class Deaf extends Stroke {
        @Override public int rings(int x) {
            ran(70);
            return super.rings(x) * 2;
        }
    }

    private static class Mourner extends Dog {
        @Override public int hears(int x) {
            ran(80);
            return super.hears(x) + does(2);
        }

        @Override public int tells(int x) {
            ran(81);
            return super.tells(x) - 1;
        }
    }

    /** The same call by its name, of the class and of the model. */
    private static final class Calls {
        static long ofClass(RungByHeart x, String name, long[] a) {
            int p = a.length > 0 ? (int) a[0] : 0;
            int q = a.length > 1 ? (int) a[1] : 0;
            int r = a.length > 2 ? (int) a[2] : 0;
            switch (name) {
                case "farm": return x.farm(p, q);
                case "farms": return x.farms(p, q, r);
                case "mend": return x.mend(p, q, r);
                case "of": return x.of(p, q);
                case "feed": return x.feed(p);
                case "law": return x.law();
                case "rung": return x.rung(p);
                case "does": return x.does(p, q);
                case "signs": return x.signs(p, q);
                case "round": return x.round(p);
                case "ends": return x.ends();
                case "often": return x.often(p, q, r);
                case "late": return x.late(p, q, r);
                case "spare": return x.spare(p);
                case "send": return x.send(p, q);
                case "changesIt": return x.changesIt(p, q);
                case "byWhom": return x.byWhom(p);
                case "church": return x.church(p, q, r);
                case "alike": return x.alike(p, q);
                case "judge": return x.judge(p, q);
                case "kinds": return x.kinds(p, q);
                case "howFar": return x.howFar(p, q);
                case "which": return x.which(p);
                case "asTold": return x.asTold(p);
                case "deaf": return x.deaf(p);
                case "drawn": return x.drawn(p, q, r);
                case "pass": return x.pass();
                case "tell": return x.tell(p, q);
                case "day": return x.day();
                case "led": return x.led(p);
                case "image": return x.image();
                case "back": return x.back();
                case "undo": return x.undo();
                case "redo": return x.redo();
                case "body": return x.body(p);
                case "act": return x.act(p, q, r);
                case "trace": return x.trace(p);
                case "keep": return x.keep(p, q);
                case "row": return x.row(p, q, r);
                case "put": return x.put(p, q, a[2]);
                case "element": return x.element(p, q);
                case "shift": return x.shift(p, q, r, (int) a[3], (int) a[4]);
                case "taken": return x.taken(p, q);
                case "count": return x.count(p);
                default: throw new IllegalArgumentException(name);
            }
        }

        static long ofModel(Model x, String name, long[] a) {
            int p = a.length > 0 ? (int) a[0] : 0;
            int q = a.length > 1 ? (int) a[1] : 0;
            int r = a.length > 2 ? (int) a[2] : 0;
            switch (name) {
                case "farm": return x.farm(p, q);
                case "farms": return x.farms(p, q, r);
                case "mend": return x.mend(p, q, r);
                case "of": return x.of(p, q);
                case "feed": return x.feed(p);
                case "law": return x.law();
                case "rung": return x.rung(p);
                case "does": return x.does(p, q);
                case "signs": return x.signs(p, q);
                case "round": return x.round(p);
                case "ends": return x.ends();
                case "often": return x.often(p, q, r);
                case "late": return x.late(p, q, r);
                case "spare": return x.spare(p);
                case "send": return x.send(p, q);
                case "changesIt": return x.changesIt(p, q);
                case "byWhom": return x.byWhom(p);
                case "church": return x.church(p, q, r);
                case "alike": return x.alike(p, q);
                case "judge": return x.judge(p, q);
                case "kinds": return x.kinds(p, q);
                case "howFar": return x.howFar(p, q);
                case "which": return x.which(p);
                case "asTold": return x.asTold(p);
                case "deaf": return x.deaf(p);
                case "drawn": return x.drawn(p, q, r);
                case "pass": return x.pass();
                case "tell": return x.tell(p, q);
                case "day": return x.day();
                case "led": return x.led(p);
                case "image": return x.image();
                case "back": return x.back();
                case "undo": return x.undo();
                case "redo": return x.redo();
                case "body": return x.body(p);
                case "act": return x.act(p, q, r);
                case "trace": return x.trace(p);
                case "keep": return x.keep(p, q);
                case "row": return x.row(p, q, r);
                case "put": return x.put(p, q, a[2]);
                case "element": return x.element(p, q);
                case "shift": return x.shift(p, q, r, (int) a[3], (int) a[4]);
                case "taken": return x.taken(p, q);
                case "count": return x.count(p);
                default: throw new IllegalArgumentException(name);
            }
        }
    }
}
