import java.util.ArrayList;
import java.util.List;
import java.util.function.Supplier;
import java.util.function.ToLongFunction;

/** What is refused is answered by the one named first, and changes nothing: each such call, in objects with a past. */
final class Refusals {
    private static final long NO_ELEMENT = Long.MIN_VALUE;
    private static final int[] OFF_SHELVES = {Edge.MIN, -1, 6, Edge.MAX};

    private record Call(String name, ToLongFunction<RungByHeart> asked, long want) {
    }

    private static List<Call> calls = new ArrayList<>();

    private Refusals() {
    }

    static void run() {
        sizes();
        order();
        changeNothing();
    }

    private static void sizes() {
        Edge.says("---- farms (n, m 0 .. 300).");
        RungByHeart x = Edge.withLaw("0");
        x.row(0, 0, 0);
        int[] tried = {-2, -1, 0, 1, 299, 300, 301, 302};
        for (int v : tried) {
            boolean is = v >= 0 && v <= 300;
            Edge.due("often to " + v, x.often(v, 1, 0), is ? 1 : Edge.BAD);
            Edge.due("late to " + v, x.late(0, v, 0), is ? 1 : Edge.BAD);
            Edge.due("alike to " + v, x.alike(1, v), is ? v + 1 : v == -1 ? 0 : Edge.BAD);
            Edge.due("send by " + v, x.send(v, 0), !is ? Edge.BAD : v == 0 ? Edge.NOT : 0);
        }
    }

    // ---- of several the one named first

    private static void order() {
        Edge.says("Answers, of several the one named first: BAD (-1): no such number, or it is not as said; NOT (-2): as told; "
            + "FULL (-3); STATE (-5): as told; -11 to -14. VOID is -2000000000.");
        RungByHeart full = fullFields();
        Edge.due("farm: BAD, FULL", full.farm(10, 0), Edge.BAD);
        Edge.due("farm: BAD, FULL", full.farm(0, 6), Edge.BAD);
        Edge.due("farm: FULL", full.farm(0, 0), Edge.FULL);
        Edge.due("feed: BAD, FULL", full.feed(256), Edge.BAD);
        Edge.due("feed: FULL", full.feed(0), Edge.FULL);
        Edge.due("body: BAD, FULL", full.body(8), Edge.BAD);
        Edge.due("body: FULL", full.body(0), Edge.FULL);
        RungByHeart x = never();
        Edge.due("round: BAD, NOT", x.round(2), Edge.BAD);
        Edge.due("spare: BAD, NOT", x.spare(2), Edge.BAD);
        Edge.due("send: BAD, NOT", x.send(301, 0), Edge.BAD);
        Edge.due("send: BAD, NOT", x.send(300, 2), Edge.BAD);
        Edge.due("changesIt: BAD, NOT", x.changesIt(40, 300), Edge.BAD);
        Edge.due("alike: BAD, NOT", x.alike(4, -1), Edge.BAD);
        Edge.due("late: BAD, -11", x.late(5, 301, 0), Edge.BAD);
        Edge.due("late: BAD, -12", x.late(4, 0, 2), Edge.BAD);
        Edge.due("farms: BAD, -12", x.farms(4, 0, 11), Edge.BAD);
        Edge.due("judge: BAD, -11", x.judge(5, 4), Edge.BAD);
        Edge.due("judge: BAD, -12", x.judge(4, -1), Edge.BAD);
        Edge.due("kinds: BAD, -11", x.kinds(5, 4), Edge.BAD);
        Edge.due("kinds: BAD, -12", x.kinds(2, 4), Edge.BAD);
        Edge.due("howFar: BAD, -11", x.howFar(5, 4), Edge.BAD);
        Edge.due("howFar: BAD, -12", x.howFar(3, -1), Edge.BAD);
        Edge.due("row: BAD, -14", x.row(6, 0, -1), Edge.BAD);
        Edge.due("row: BAD, -14", x.row(0, 5, -1), Edge.BAD);
        Edge.due("put: -11, -13", x.put(5, -1, 0), Edge.NOTHING);
        Edge.due("put: -12, -13", x.put(4, 60, 0), Edge.OTHER);
        Edge.due("shift: BAD, -11", x.shift(5, 0, 6, 0, 0), Edge.BAD);
        Edge.due("shift: BAD, -12", x.shift(-1, 0, 4, 0, 0), Edge.BAD);
        Edge.due("shift: -11, -12", x.shift(4, 0, 5, 0, 0), Edge.NOTHING);
        Edge.due("shift: -11, -12", x.shift(5, 0, 4, 0, 0), Edge.NOTHING);
        Edge.due("shift: -11, -13", x.shift(0, 9, 5, 0, 0), Edge.NOTHING);
        Edge.due("shift: -12, -13", x.shift(0, 9, 2, 9, -1), Edge.OTHER);
        Edge.due("shift: -12, -13", x.shift(4, 9, 0, 9, 9), Edge.OTHER);
        Edge.due("taken: BAD, -11", x.taken(5, 8), Edge.BAD);
        Edge.due("taken: BAD, -12", x.taken(0, -1), Edge.BAD);
        Edge.due("VOID", RungByHeart.VOID, -2000000000);
    }

    // ---- objects with a past

    /** Four farms, a text on the tape, five minutes and an image, strokes and rows; one change is undone. */
    private static RungByHeart amid(String law) {
        RungByHeart x = Edge.fresh();
        Edge.lawOf(x, law);
        x.farm(2, 0);
        x.farm(0, 3);
        x.farm(1, 5);
        x.farm(0, 1);
        x.mend(2, 2, 3);
        x.mend(2, 3, 2);
        x.mend(0, 7, 4);
        x.mend(0, 5, 2);
        x.undo();
        x.tell(3, 1);
        for (int m = 0; m < 4; m++) {
            x.pass();
        }
        x.tell(0, 3);
        x.image();
        x.pass();
        x.tell(3, 2);
        x.tell(1, 3);
        for (int kind = 0; kind < 8; kind++) {
            x.body(kind);
        }
        x.act(7, 3, 5);
        Edge.bytes(x, 0, 1, 1, 1, 1);
        Edge.bytes(x, 1, 3, 0);
        x.row(2, 2, 3);
        x.put(2, 1, 70000);
        x.row(3, 4, 2);
        x.put(3, 0, 1);
        x.keep(4, 7);
        x.feed('m');
        x.feed('%');
        x.feed('3');
        return x;
    }

    private static RungByHeart amid() {
        return amid("c+a*2>b?3;m%4");
    }

    /** By its law the same is rung on and on, and something else in minute 300. */
    private static RungByHeart never() {
        return amid("m=300?r+1;r");
    }

    private static RungByHeart fullFields() {
        RungByHeart x = Edge.fresh();
        for (int f = 0; f < 10; f++) {
            x.farm(f, f % 6);
        }
        x.feed('!');
        for (int i = 1; i < 120; i++) {
            x.feed(i % 2 == 1 ? '2' : '-');
        }
        for (int n = 0; n < 50; n++) {
            x.body(n % 8);
        }
        x.mend(0, 6, 2);
        Edge.bytes(x, 0, 1, 1, 1);
        x.act(49, 1, 5);
        return x;
    }

    private static RungByHeart lastMinute() {
        RungByHeart x = Edge.withLaw("a+m%3");
        x.farm(2, 0);
        x.image();
        for (int m = 0; m < 300; m++) {
            x.pass();
        }
        x.tell(0, 3);
        return x;
    }

    private static RungByHeart allUndone() {
        RungByHeart x = Edge.fresh();
        x.farm(0, 0);
        for (int v = 1; v <= 41; v++) {
            x.mend(0, 2, v);
        }
        for (int v = 1; v <= 40; v++) {
            x.undo();
        }
        return x;
    }

    private static RungByHeart allDone() {
        RungByHeart x = Edge.fresh();
        x.farm(0, 0);
        x.mend(0, 2, 7);
        x.mend(0, 5, 7);
        x.pass();
        return x;
    }

    // ---- what an object tells of itself

    /** All that it tells, by calls that then change it: asked once of an object, as the last. */
    private static String told(RungByHeart x) {
        StringBuilder all = new StringBuilder();
        numbers(x, all);
        for (int i = 0; i < 14; i++) {
            tell(all, x.trace(i));
        }
        for (int shelf = 0; shelf < 6; shelf++) {
            tell(all, x.taken(shelf, 0));
            for (int i = 0; i < 5; i++) {
                tell(all, x.element(shelf, i));
            }
        }
        day(x, all);
        tell(all, x.law());
        day(x, all);
        deeds(x, all);
        tell(all, x.day());
        deeds(x, all);
        tell(all, x.back());
        deeds(x, all);
        tell(all, x.body(0));
        int again = 1;
        while (again > 0) {
            again = x.redo();
            tell(all, again);
        }
        numbers(x, all);
        for (int k = 0; k < 5; k++) {
            tell(all, x.undo());
        }
        numbers(x, all);
        return all.toString();
    }

    private static void tell(StringBuilder all, long answer) {
        all.append(answer).append(' ');
    }

    private static void numbers(RungByHeart x, StringBuilder all) {
        for (int what = 0; what < 5; what++) {
            tell(all, x.count(what));
            tell(all, x.led(what));
        }
        for (int what = 5; what < 12; what++) {
            tell(all, x.of(0, what));
        }
        int farms = Math.min(4, x.count(0));
        for (int f = 0; f < farms; f++) {
            for (int what = 0; what < 5; what++) {
                tell(all, x.of(f, what));
            }
        }
    }

    private static void day(RungByHeart x, StringBuilder all) {
        tell(all, x.rung(1));
        tell(all, x.rung(4));
        tell(all, x.often(300, 1, 0));
        tell(all, x.often(300, 0, 1));
    }

    private static void deeds(RungByHeart x, StringBuilder all) {
        for (int m = 0; m < 4; m++) {
            tell(all, x.pass());
        }
        for (int what = 0; what < 5; what++) {
            tell(all, x.led(what));
        }
    }

    // ---- every refused call

    private static void refused(String name, ToLongFunction<RungByHeart> asked, long want) {
        calls.add(new Call(name, asked, want));
    }

    private static void changeNothing() {
        Edge.says("What is answered so changes nothing.");
        farmsRefused();
        daysRefused();
        churchesRefused();
        deedsRefused();
        strokesRefused();
        shelvesRefused();
        shiftsRefused();
        askAll("amid", Refusals::amid);
        neverTold();
        askAll("never", Refusals::never);
        fullRefused();
        askAll("full", Refusals::fullFields);
        refused("pass", RungByHeart::pass, Edge.STATE);
        askAll("in minute 300", Refusals::lastMinute);
        refused("undo", RungByHeart::undo, Edge.STATE);
        refused("back", RungByHeart::back, Edge.STATE);
        askAll("all undone", Refusals::allUndone);
        refused("redo", RungByHeart::redo, Edge.STATE);
        refused("back", RungByHeart::back, Edge.STATE);
        askAll("all done", Refusals::allDone);
        emptyRefused();
        askAll("fresh", Edge::fresh);
    }

    /** Each call is made alone, twice, and then the object tells what an untouched one tells. */
    private static void askAll(String state, Supplier<RungByHeart> past) {
        String untouched = told(past.get());
        for (Call call : calls) {
            RungByHeart x = past.get();
            Edge.due(state + ", " + call.name, call.asked.applyAsLong(x), call.want);
            Edge.due(state + ", " + call.name + " again", call.asked.applyAsLong(x), call.want);
            Edge.due(state + ", behind " + call.name, told(x), untouched);
        }
        calls = new ArrayList<>();
    }

    private static void farmsRefused() {
        int[][] farms = {{-1, 0}, {10, 0}, {0, -1}, {0, 6}, {Edge.MIN, 0}, {0, Edge.MAX}, {10, 6}};
        for (int[] f : farms) {
            refused("farm(" + f[0] + ", " + f[1] + ")", x -> x.farm(f[0], f[1]), Edge.BAD);
        }
        int[][] from = {{-1, 0, 1}, {6, 0, 1}, {0, 0, 0}, {0, 0, -1}, {0, 0, 11}, {0, 0, Edge.MAX}, {0, 0, Edge.MIN}, {5, 0, 0},
            {5, 0, 11}, {2, 0, 11}};
        for (int[] f : from) {
            refused("farms(" + f[0] + ", .., " + f[2] + ")", x -> x.farms(f[0], f[1], f[2]), Edge.BAD);
        }
        for (int shelf = 2; shelf < 5; shelf++) {
            int s = shelf;
            refused("farms, no bytes", x -> x.farms(s, 0, 1), Edge.OTHER);
        }
        refused("farms, nothing there", x -> x.farms(5, 0, 10), 0);
        refused("farms, it ends within", x -> x.farms(0, 2, 10), 0);
        refused("farms, behind it", x -> x.farms(0, Edge.MAX, 10), 0);
        refused("farms, ahead of it", x -> x.farms(0, -1, 10), 0);
        int[] most = {9, 5, 99, 3, 9, 10, 3, 12};
        for (int what = 0; what < 8; what++) {
            int w = what;
            int other = what < 5 ? 4 : 1;
            refused("mend, v -1", x -> x.mend(0, w, -1), Edge.BAD);
            refused("mend, v above", x -> x.mend(0, w, most[w] + 1), Edge.BAD);
            refused("mend, number -1", x -> x.mend(-1, w, 0), Edge.BAD);
            refused("mend, number " + other, x -> x.mend(other, w, 0), Edge.BAD);
            refused("of, number -1", x -> x.of(-1, w), Edge.BAD);
            refused("of, number " + other, x -> x.of(other, w), Edge.BAD);
        }
        int[] whats = {Edge.MIN, -1, 8, 9, 12, Edge.MAX};
        for (int what : whats) {
            refused("mend, what " + what, x -> x.mend(0, what, 0), Edge.BAD);
            refused("of, what " + what, x -> x.of(0, what), Edge.BAD);
        }
        refused("mend, NOW", x -> x.mend(0, 10, 0), Edge.BAD);
        refused("mend, rung NOW", x -> x.mend(0, 11, 0), Edge.BAD);
        refused("of, NOW", x -> x.of(1, 10), Edge.BAD);
        refused("of, rung NOW", x -> x.of(1, 11), Edge.BAD);
        refused("feed -1", x -> x.feed(-1), Edge.BAD);
        refused("feed 256", x -> x.feed(256), Edge.BAD);
        refused("mend, the same number", x -> x.mend(2, 2, 3), 3);
    }

    private static void daysRefused() {
        int[] minutes = {Edge.MIN, -1, 301, Edge.MAX};
        for (int m : minutes) {
            refused("rung " + m, x -> x.rung(m), Edge.BAD);
            refused("does in " + m, x -> x.does(0, m), Edge.BAD);
            refused("signs in " + m, x -> x.signs(m, 0), Edge.BAD);
            refused("often to " + m, x -> x.often(m, 0, 0), Edge.BAD);
            refused("late to " + m, x -> x.late(0, m, 0), Edge.BAD);
            refused("send by " + m, x -> x.send(m, 0), Edge.BAD);
            refused("changesIt in " + m, x -> x.changesIt(1, m), Edge.BAD);
            refused("byWhom in " + m, x -> x.byWhom(m), Edge.BAD);
            refused("church in " + m, x -> x.church(1, m, 0), Edge.BAD);
            refused("alike to " + m, x -> x.alike(1, m == -1 ? -2 : m), Edge.BAD);
        }
        int[] off = {-1, 4};
        for (int v : off) {
            refused("does, farm " + v, x -> x.does(v, 0), Edge.BAD);
            refused("signs, " + v, x -> x.signs(0, v), Edge.BAD);
            refused("often, " + v, x -> x.often(0, v, 0), Edge.BAD);
            refused("changesIt, farm " + v, x -> x.changesIt(10 * v, 0), Edge.BAD);
        }
        refused("changesIt, sign 4", x -> x.changesIt(14, 0), Edge.BAD);
        refused("changesIt, sign 9", x -> x.changesIt(19, 0), Edge.BAD);
        refused("changesIt, fs -1", x -> x.changesIt(-1, 0), Edge.BAD);
        int[] whats = {Edge.MIN, -1, 2, Edge.MAX};
        for (int what : whats) {
            refused("round " + what, x -> x.round(what), Edge.BAD);
            refused("often, what " + what, x -> x.often(0, 0, what), Edge.BAD);
            refused("late, what " + what, x -> x.late(0, 0, what), Edge.BAD);
            refused("spare " + what, x -> x.spare(what), Edge.BAD);
            refused("send, what " + what, x -> x.send(0, what), Edge.BAD);
            refused("church, what " + what, x -> x.church(1, 0, what), Edge.BAD);
            refused("drawn, what " + what, x -> x.drawn(1, 203, what), Edge.BAD);
        }
    }

    private static void churchesRefused() {
        int[] sbs = {Edge.MIN, -10, -1, 4, 14, 160, 163, Edge.MAX};
        for (int sb : sbs) {
            refused("church by " + sb, x -> x.church(sb, 9, 1), Edge.BAD);
            refused("alike by " + sb, x -> x.alike(sb, 9), Edge.BAD);
        }
        int[] nms = {Edge.MIN, -101, 0, 99, 100, 2000, 2100, 2101, Edge.MAX};
        for (int nm : nms) {
            refused("drawn " + nm, x -> x.drawn(1, nm, 0), Edge.BAD);
        }
        for (int shelf : OFF_SHELVES) {
            wantBytes(shelf, Edge.BAD);
        }
        for (int shelf = 2; shelf < 5; shelf++) {
            wantBytes(shelf, Edge.OTHER);
        }
        wantBytes(5, Edge.NOTHING);
        for (int farm = -1; farm < 5; farm += 5) {
            int f = farm;
            refused("judge, farm " + f, x -> x.judge(0, f), Edge.BAD);
            refused("kinds, farm " + f, x -> x.kinds(0, f), Edge.BAD);
            refused("howFar, farm " + f, x -> x.howFar(0, f), Edge.BAD);
        }
    }

    private static void wantBytes(int shelf, int want) {
        refused("late on " + shelf, x -> x.late(shelf, 9, 0), want);
        refused("judge on " + shelf, x -> x.judge(shelf, 0), want);
        refused("kinds on " + shelf, x -> x.kinds(shelf, 0), want);
        refused("howFar on " + shelf, x -> x.howFar(shelf, 0), want);
        refused("which on " + shelf, x -> x.which(shelf), want);
        refused("asTold on " + shelf, x -> x.asTold(shelf), want);
        refused("deaf on " + shelf, x -> x.deaf(shelf), want);
    }

    private static void deedsRefused() {
        int[] off = {Edge.MIN, -1, 4, Edge.MAX};
        for (int v : off) {
            refused("tell, farm " + v, x -> x.tell(v, 0), Edge.BAD);
            refused("tell, sign " + v, x -> x.tell(0, v), Edge.BAD);
        }
        int[] whats = {Edge.MIN, -1, 5, 14, Edge.MAX};
        for (int what : whats) {
            refused("led " + what, x -> x.led(what), Edge.BAD);
            refused("count " + what, x -> x.count(what), Edge.BAD);
        }
    }

    private static void strokesRefused() {
        int[] off = {Edge.MIN, -1, 14, 23, 24, Edge.MAX};
        for (int i : off) {
            refused("trace " + i, x -> x.trace(i), Edge.BAD);
        }
        int[] kinds = {Edge.MIN, -1, 8, Edge.MAX};
        for (int kind : kinds) {
            refused("body " + kind, x -> x.body(kind), Edge.BAD);
            refused("taken for " + kind, x -> x.taken(4, kind), Edge.BAD);
            refused("a row taken for " + kind, x -> x.taken(0, kind), Edge.BAD);
        }
        int[] bodies = {Edge.MIN, -2, 8, 50, Edge.MAX};
        for (int shelf = 0; shelf < 6; shelf++) {
            int s = shelf;
            for (int body : bodies) {
                refused("keep on " + s + " body " + body, x -> x.keep(s, body), Edge.BAD);
            }
        }
        refused("a mourner taken for a knee", x -> x.taken(4, 2), Edge.OTHER);
        refused("a row taken", x -> x.taken(0, 0), Edge.OTHER);
        refused("nothing taken", x -> x.taken(5, 0), Edge.NOTHING);
    }

    private static void shelvesRefused() {
        for (int shelf : OFF_SHELVES) {
            refused("keep on " + shelf, x -> x.keep(shelf, 0), Edge.BAD);
            refused("keep nothing on " + shelf, x -> x.keep(shelf, -1), Edge.BAD);
            refused("row on " + shelf, x -> x.row(shelf, 0, 1), Edge.BAD);
            refused("put on " + shelf, x -> x.put(shelf, 0, 9), Edge.BAD);
            refused("element of " + shelf, x -> x.element(shelf, 0), NO_ELEMENT);
            refused("taken from " + shelf, x -> x.taken(shelf, 0), Edge.BAD);
            refused("shift from " + shelf, x -> x.shift(shelf, 0, 0, 0, 1), Edge.BAD);
            refused("shift to " + shelf, x -> x.shift(0, 0, shelf, 0, 1), Edge.BAD);
        }
        for (int shelf = 0; shelf < 6; shelf++) {
            int s = shelf;
            refused("row on " + s + ", sort -1", x -> x.row(s, -1, 1), Edge.BAD);
            refused("row on " + s + ", sort 5", x -> x.row(s, 5, 1), Edge.BAD);
            refused("row on " + s + ", n 61", x -> x.row(s, 0, 61), Edge.BAD);
            refused("row on " + s + ", n -1", x -> x.row(s, 0, -1), Edge.SIZE);
            refused("row on " + s + ", n MIN", x -> x.row(s, 3, Edge.MIN), Edge.SIZE);
            refused("row on " + s + ", n MAX", x -> x.row(s, 3, Edge.MAX), Edge.BAD);
        }
        int[] sizes = {4, 2, 3, 2};
        for (int shelf = 0; shelf < 4; shelf++) {
            int s = shelf;
            int[] places = {Edge.MIN, -1, sizes[s], 59, 60, Edge.MAX};
            for (int i : places) {
                refused("put on " + s + " at " + i, x -> x.put(s, i, 9), Edge.PLACE);
                refused("element of " + s + " at " + i, x -> x.element(s, i), NO_ELEMENT);
            }
        }
        refused("put on a stroke", x -> x.put(4, 0, 9), Edge.OTHER);
        refused("put on nothing", x -> x.put(5, 0, 9), Edge.NOTHING);
        refused("element of a stroke", x -> x.element(4, 0), NO_ELEMENT);
        refused("element of nothing", x -> x.element(5, 0), NO_ELEMENT);
    }

    private static void shiftsRefused() {
        for (int shelf = 0; shelf < 6; shelf++) {
            int s = shelf;
            refused("shift from nothing to " + s, x -> x.shift(5, 0, s, 0, 1), Edge.NOTHING);
            refused("shift from " + s + " to nothing", x -> x.shift(s, 0, 5, 0, 1), Edge.NOTHING);
            if (s < 5) {
                refused("shift from a stroke to " + s, x -> x.shift(4, 0, s, 0, 1), Edge.OTHER);
                refused("shift from " + s + " to a stroke", x -> x.shift(s, 0, 4, 0, 1), Edge.OTHER);
            }
        }
        refused("shift of unlike sorts", x -> x.shift(0, 0, 2, 0, 1), Edge.OTHER);
        refused("shift of unlike sorts", x -> x.shift(3, 0, 2, 0, 0), Edge.OTHER);
        int[][] off = {{-1, 0, 1}, {0, -1, 1}, {0, 0, -1}, {4, 0, 1}, {0, 2, 1}, {0, 0, 3}, {3, 0, 2}, {5, 0, 0}, {0, 3, 0},
            {Edge.MAX, 0, 1}, {0, Edge.MAX, 1}, {0, 0, Edge.MAX}, {Edge.MIN, 0, 0}, {0, Edge.MIN, 0}, {0, 0, Edge.MIN}};
        for (int[] o : off) {
            String places = o[0] + ", " + o[1] + ", " + o[2];
            refused("shift from 0 to 1 by " + places, x -> x.shift(0, o[0], 1, o[1], o[2]), Edge.PLACE);
        }
    }

    private static void neverTold() {
        refused("round(0)", x -> x.round(0), Edge.NOT);
        refused("round(1)", x -> x.round(1), Edge.NOT);
        refused("ends", RungByHeart::ends, Edge.NOT);
        refused("late, the first", x -> x.late(0, 3, 1), Edge.NOT);
        refused("spare, when", x -> x.spare(1), Edge.NOT);
        refused("send, how many", x -> x.send(300, 0), Edge.NOT);
        refused("send, which", x -> x.send(300, 1), Edge.NOT);
        refused("changesIt", x -> x.changesIt(1, 9), Edge.NOT);
        refused("alike", x -> x.alike(3, -1), Edge.NOT);
        refused("judge", x -> x.judge(0, 1), Edge.NOT);
        refused("howFar", x -> x.howFar(0, 3), Edge.NOT);
        refused("asTold", x -> x.asTold(0), Edge.NOT);
        refused("deaf", x -> x.deaf(1), Edge.NOT);
    }

    private static void fullRefused() {
        refused("farm", x -> x.farm(3, 3), Edge.FULL);
        refused("farms", x -> x.farms(0, 0, 1), 0);
        refused("feed", x -> x.feed('1'), Edge.FULL);
        refused("body", x -> x.body(7), Edge.FULL);
        refused("farm, BAD", x -> x.farm(10, 3), Edge.BAD);
        refused("feed, BAD", x -> x.feed(256), Edge.BAD);
        refused("body, BAD", x -> x.body(8), Edge.BAD);
        refused("keep the 51st", x -> x.keep(0, 50), Edge.BAD);
        refused("mend the eleventh", x -> x.mend(10, 0, 1), Edge.BAD);
        refused("tell the eleventh", x -> x.tell(10, 1), Edge.BAD);
    }

    private static void emptyRefused() {
        refused("undo", RungByHeart::undo, Edge.STATE);
        refused("redo", RungByHeart::redo, Edge.STATE);
        refused("back", RungByHeart::back, Edge.STATE);
        refused("spare", x -> x.spare(0), Edge.NOT);
        refused("mend the first", x -> x.mend(0, 0, 1), Edge.BAD);
        refused("tell the first", x -> x.tell(0, 1), Edge.BAD);
        refused("does the first", x -> x.does(0, 1), Edge.BAD);
        refused("keep the first", x -> x.keep(0, 0), Edge.BAD);
        refused("trace", x -> x.trace(0), Edge.BAD);
        refused("put", x -> x.put(0, 0, 1), Edge.NOTHING);
        refused("taken", x -> x.taken(0, 0), Edge.NOTHING);
        refused("shift", x -> x.shift(0, 0, 1, 0, 0), Edge.NOTHING);
        refused("the church that farm 0 hears", x -> x.church(11, 0, 0), Edge.BAD);
    }
}
