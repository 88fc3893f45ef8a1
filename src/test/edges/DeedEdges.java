/** Edges of the ringing in deed, of changes and of the image, and of promises 28 to 35. */
final class DeedEdges {
    private DeedEdges() {
    }

    static void run() {
        inDeed();
        led();
        changes();
        keptChanges();
        doneAgain();
        image();
        pass();
        tell();
        day();
        promisedLed();
        promisedImage();
        back();
        undo();
        redo();
    }

    private static void leads(String call, RungByHeart x, int... want) {
        for (int what = 0; what < want.length; what++) {
            Edge.due(call + ", led(" + what + ")", x.led(what), want[what]);
        }
    }

    private static void inDeed() {
        Edge.says("IN DEED: it is NOW minute 0, BEGINS is rung in it (as it is when the first minute passes); a MINUTE passes: "
            + "what is rung then; a FARM is TOLD a SIGN for the minute NOW (it does that instead); a NEW DAY.");
        for (int sign = 0; sign <= 3; sign++) {
            RungByHeart x = Edge.withLaw("a+b*2+c*3");
            x.farm(1, 0);
            Edge.due("at first", x.of(0, 11), 1);
            Edge.begins(x, sign);
            Edge.due("mended in minute 0", x.of(0, 11), sign);
            Edge.due("nothing is heard yet", x.pass(), 0);
            Edge.due("minute 0 was rung as it was then", x.pass(), sign);
            Edge.begins(x, 3 - sign);
            Edge.due("too late", x.of(0, 11), sign);
            Edge.due("two minutes later", x.pass() * 10 + x.pass(), sign);
            x.day();
            Edge.due("a new day begins as it is now", x.of(0, 11), 3 - sign);
            x.pass();
            Edge.due("heard on the new day", x.pass(), 3 - sign);
        }
        lateMend();
        forTheMinute();
    }

    /** BEGINS, mended between the first minute and the second, is not what was rung. */
    private static void lateMend() {
        RungByHeart x = Edge.withLaw("m=1?0;a+b*2+c*3");
        x.farm(1, 0);
        x.pass();
        Edge.begins(x, 2);
        Edge.due("what was rung stays rung", x.pass(), 1);
        x.day();
        x.undo();
        Edge.due("undone on a new day", x.of(0, 11), 1);
        x.redo();
        Edge.due("done again", x.of(0, 11), 2);
        x.pass();
        x.undo();
        Edge.due("undone too late", x.pass(), 2);
    }

    private static void forTheMinute() {
        RungByHeart x = Edge.withLaw("a+b*2+c*3");
        x.farm(0, 1);
        for (int sign = 0; sign <= 3; sign++) {
            Edge.due("it would do nothing", x.tell(0, sign), 0);
            Edge.due("it does what it was told", x.pass(), sign);
            Edge.due("for that minute alone", x.pass(), 0);
        }
        x.tell(0, 3);
        x.day();
        Edge.due("a new day", x.pass(), 0);
        Edge.due("a day in thought is none of it", x.often(300, 0, 0), 300);
    }

    private static void led() {
        Edge.says("LED: minutes, strokes (minutes 1 on in which something was rung), FARMS told, days, what is rung NOW.");
        RungByHeart x = Edge.withLaw("m%2");
        x.farm(0, 0);
        leads("at first", x, 0, 0, 0, 0, 1);
        x.pass();
        leads("minute 0 is no stroke", x, 1, 1, 0, 0, 1);
        x.pass();
        leads("nothing is no stroke", x, 2, 1, 0, 0, 0);
        x.tell(0, 0);
        leads("a farm told nothing", x, 2, 1, 1, 0, 0);
        x.tell(0, 3);
        leads("told again", x, 2, 1, 2, 0, 0);
        x.tell(0, 4);
        x.tell(1, 0);
        leads("refused", x, 2, 1, 2, 0, 0);
        x.day();
        leads("a new day", x, 2, 1, 2, 1, 1);
        x.day();
        x.pass();
        leads("all days count", x, 3, 2, 2, 2, 1);
        RungByHeart full = Edge.withLaw("3");
        for (int m = 1; m <= 300; m++) {
            full.pass();
        }
        leads("300 minutes", full, 300, 300, 0, 0, 3);
        full.pass();
        leads("refused", full, 300, 300, 0, 0, 3);
        full.day();
        full.pass();
        leads("on and on", full, 301, 301, 0, 1, 3);
    }

    // ---- changes

    private static void changes() {
        Edge.says("CHANGES (all numbers of mend(); telling the same number is none) can be UNDONE, the latest first, and "
            + "DONE AGAIN (as long as no other came behind);");
        int[] first = {4, 2, 0, 1, 0, 1, 1, 0};
        RungByHeart x = Edge.fresh();
        x.farm(4, 2);
        for (int what = 0; what < 8; what++) {
            Edge.due("the same number", x.mend(0, what, first[what]), first[what]);
            Edge.due("is no change", x.count(2), what);
            Edge.due("another number", x.mend(0, what, 3), first[what]);
            Edge.due("is one", x.count(2), what + 1);
        }
        for (int what = 7; what >= 0; what--) {
            Edge.due("undone", x.undo(), what);
            Edge.due("the latest first", x.of(0, what), first[what]);
            Edge.due("none but it", x.of(0, what - 1), what > 0 ? 3 : Edge.BAD);
        }
        Edge.due("none is left", x.undo(), Edge.STATE);
        for (int what = 0; what < 8; what++) {
            Edge.due("done again", x.redo(), 7 - what);
            Edge.due("the one undone last", x.of(0, what), 3);
        }
        Edge.due("none is left", x.redo(), Edge.STATE);
        Edge.due("all may be undone", x.count(2), 8);
    }

    private static void keptChanges() {
        Edge.says("40 at most are kept; deeds are none.");
        for (int many = 38; many <= 90; many += many < 43 || many > 77 ? 1 : 35) {
            RungByHeart x = Edge.fresh();
            x.farm(0, 0);
            for (int v = 1; v <= many; v++) {
                x.mend(0, 2, v);
                Edge.due("after " + v, x.count(2), Math.min(40, v));
            }
            int kept = Math.min(40, many);
            for (int k = 1; k <= kept; k++) {
                Edge.due("undone, " + k + " of " + many, x.undo(), kept - k);
                Edge.due("AT", x.of(0, 2), many - k);
            }
            Edge.due("the " + kept + " are undone", x.undo(), Edge.STATE);
            Edge.due("AT stays", x.of(0, 2), many - kept);
            for (int k = 1; k <= kept; k++) {
                Edge.due("done again, " + k + " of " + many, x.redo(), kept - k);
                Edge.due("AT", x.of(0, 2), many - kept + k);
            }
            Edge.due("all are done again", x.redo(), Edge.STATE);
        }
        oldestDropped();
        deedsAreNone();
    }

    /** Changes of all numbers, of which the first six are kept no more. */
    private static void oldestDropped() {
        RungByHeart x = Edge.deafFarms(10);
        for (int k = 0; k < 46; k++) {
            Edge.due("mended", x.mend(k / 5, k % 5, 2), k % 5 == 1 || k % 5 == 3 ? 1 : 0);
        }
        for (int k = 45; k >= 6; k--) {
            Edge.due("it stands", x.of(k / 5, k % 5), 2);
            Edge.due("undone", x.undo(), k - 6);
            Edge.due("as it was", x.of(k / 5, k % 5), k % 5 == 1 || k % 5 == 3 ? 1 : 0);
        }
        Edge.due("no more are kept", x.undo(), Edge.STATE);
        for (int k = 0; k < 6; k++) {
            Edge.due("it stays", x.of(k / 5, k % 5), 2);
        }
        for (int k = 6; k < 46; k++) {
            Edge.due("done again", x.redo(), 45 - k);
            Edge.due("it stands again", x.of(k / 5, k % 5), 2);
        }
    }

    private static void deedsAreNone() {
        RungByHeart x = Edge.fresh();
        x.farm(0, 0);
        x.mend(0, 0, 5);
        x.mend(0, 0, 6);
        x.undo();
        x.pass();
        x.tell(0, 2);
        x.image();
        x.day();
        x.back();
        x.farm(1, 1);
        Edge.lawOf(x, "2");
        x.body(0);
        x.row(0, 0, 3);
        Edge.due("one may be undone", x.count(2), 1);
        Edge.due("one may be done again", x.redo(), 0);
        Edge.due("FAR", x.of(0, 0), 6);
        Edge.due("undone", x.undo(), 1);
        Edge.due("undone", x.undo(), 0);
        Edge.due("no deed is undone", x.undo(), Edge.STATE);
        Edge.due("NOW", x.of(0, 10), 1);
        Edge.due("the farm stays", x.count(0), 2);
    }

    private static void doneAgain() {
        for (int undone = 1; undone <= 40; undone++) {
            RungByHeart x = Edge.fresh();
            x.farm(0, 0);
            for (int v = 1; v <= 41; v++) {
                x.mend(0, 2, v);
            }
            for (int k = 0; k < undone; k++) {
                x.undo();
            }
            int at = 41 - undone;
            Edge.due("the same number", x.mend(0, 2, at), at);
            Edge.due("refused", x.mend(0, 2, 100), Edge.BAD);
            Edge.due("they may be done again", x.redo(), undone - 1);
            x.undo();
            Edge.due("another comes behind", x.mend(0, 2, 99), at);
            Edge.due("none may be done again", x.redo(), Edge.STATE);
            Edge.due("how many may be undone", x.count(2), 41 - undone);
            Edge.due("undone", x.undo(), 40 - undone);
            Edge.due("AT", x.of(0, 2), at);
            Edge.due("the other one is done again", x.redo(), 0);
            Edge.due("AT", x.of(0, 2), 99);
        }
    }

    // ---- the image

    private static void image() {
        Edge.says("AN IMAGE keeps NOW, what was rung, told, what LED tells.");
        RungByHeart x = Edge.withLaw("a+b*2+c*3");
        x.farm(3, 0);
        x.farm(0, 1);
        int[] signs = {3, 2, 0, 2};
        for (int sign : signs) {
            x.tell(1, sign);
            x.tell(0, 0);
            x.pass();
        }
        x.tell(0, 0);
        x.tell(1, 3);
        Edge.due("NOW", x.image(), 4);
        for (int again = 0; again < 3; again++) {
            leads("as kept", x, 4, 3, 10, 0, 2);
            Edge.due("NOW", x.of(0, 10), 4);
            Edge.due("rung NOW", x.of(0, 11), 2);
            Edge.due("told", x.pass(), 3);
            Edge.due("told in the minute kept alone", x.tell(1, 0), 0);
            Edge.due("what was rung in minute 2", x.pass(), 2);
            Edge.due("what was rung in minute 3", x.pass(), 0);
            Edge.due("what was rung in minute 4", x.pass(), 2);
            Edge.due("what was rung in minute 5", x.pass(), 3);
            x.day();
            for (int m = 0; m < 12; m++) {
                x.tell(1, 1);
                x.pass();
            }
            x.mend(0, 2, again + 1);
            Edge.due("laid back", x.back(), 4);
            Edge.due("what was mended stays", x.of(0, 2), again + 1);
        }
        Edge.due("the changes stay", x.count(2), 3);
        Edge.begins(x, 2);
        Edge.due("what was rung in minute 0 is no more BEGINS", x.of(0, 11), 2);
        x.pass();
        x.image();
        x.day();
        Edge.due("the latest image", x.back(), 5);
        Edge.due("once more", x.back(), 5);
        RungByHeart y = Edge.withLaw("g=4?3-r;r");
        int[] told = {1, 1, 1, 2, 2, 2, 2, 1};
        y.image();
        for (int m = 0; m < told.length; m++) {
            for (int again = 0; again < 3; again++) {
                Edge.due("laid back", y.back(), m);
                Edge.due("how long the same was rung", y.pass(), told[m]);
            }
            y.image();
            y.pass();
            y.day();
            y.pass();
        }
    }

    // ---- promises 28 to 35

    private static void pass() {
        Edge.says("`int pass()`: A MINUTE: what is rung then. STATE: NOW is 300.");
        RungByHeart x = Edge.scale();
        x.farm(0, 0);
        for (int m = 1; m <= 300; m++) {
            Edge.due("minute " + m, x.pass(), m % 4);
        }
        Edge.due("told in minute 300", x.tell(0, 2), 0);
        for (int i = 0; i < 3; i++) {
            Edge.due("NOW is 300", x.pass(), Edge.STATE);
            Edge.due("NOW", x.of(0, 10), 300);
            Edge.due("rung NOW", x.of(0, 11), 0);
            leads("refused", x, 300, 225, i + 1, 0, 0);
            Edge.due("told stays", x.tell(0, 2), 2);
        }
        Edge.due("an image of minute 300", x.image(), 300);
        Edge.due("a new day", x.day(), 300);
        Edge.due("minute 1", x.pass(), 1);
        Edge.due("laid back", x.back(), 300);
        Edge.due("told, kept", x.tell(0, 0), 2);
        Edge.due("NOW is 300", x.pass(), Edge.STATE);
        RungByHeart y = Edge.fresh();
        Edge.due("no farms", y.pass(), 0);
        y.mend(0, 5, 0);
        Edge.due("no farms, QUORUM 0", y.pass(), 0);
    }

    private static void tell() {
        Edge.says("`int tell(int farm, int sign)`: TOLD: what it would do. BAD.");
        RungByHeart x = Edge.withLaw("b");
        Edge.due("no farm", x.tell(0, 0), Edge.BAD);
        Edge.due("none was told", x.led(2), 0);
        x.farm(0, 0);
        x.farm(0, 1);
        Edge.range("farm", 0, 1, v -> x.tell(v, 2), v -> v == 0 ? 1 : 0);
        Edge.range("sign", 0, 3, v -> x.tell(1, v), v -> v == 0 ? 2 : v - 1);
        Edge.due("neither", x.tell(2, 4), Edge.BAD);
        Edge.due("told", x.led(2), 6);
        Edge.due("the last that was allowed counts", x.pass(), 1);
        Edge.due("it would do what it hears", x.tell(0, 0), 1);
    }

    private static void day() {
        Edge.says("`int day()`: A NEW DAY: NOW was.");
        RungByHeart x = Edge.withLaw("3");
        Edge.due("minute 0", x.day(), 0);
        Edge.due("minute 0 again", x.day(), 0);
        for (int m = 1; m <= 300; m++) {
            x.pass();
        }
        Edge.due("minute 300", x.day(), 300);
        Edge.due("NOW", x.of(0, 10), 0);
        leads("days", x, 300, 300, 0, 3, 1);
        Edge.due("minute 1", x.pass(), 3);
        Edge.due("minute 1", x.day(), 1);
    }

    private static void promisedLed() {
        Edge.says("`int led(int what)`: LED: minutes (what 0), strokes (1), FARMS told (2), days (3), what is rung NOW (4). BAD.");
        RungByHeart x = Edge.withLaw("m<3?2;0");
        x.farm(0, 0);
        int[] want = {3, 2, 1, 4, 1};
        x.tell(0, 0);
        x.pass();
        x.pass();
        x.pass();
        for (int d = 0; d < 4; d++) {
            x.day();
        }
        Edge.range("led", 0, 4, x::led, v -> want[v]);
    }

    private static void promisedImage() {
        Edge.says("`int image()`: AN IMAGE is kept: NOW.");
        RungByHeart x = Edge.fresh();
        for (int m = 0; m <= 300; m++) {
            if (m < 5 || m > 295) {
                Edge.due("minute " + m, x.image(), m);
            }
            x.pass();
        }
        Edge.due("the last one", x.back(), 300);
    }

    private static void back() {
        Edge.says("`int back()`: It is laid back: NOW. STATE: there is none.");
        RungByHeart x = Edge.withLaw("2");
        x.farm(0, 1);
        x.tell(0, 3);
        x.pass();
        x.tell(0, 3);
        Edge.due("none", x.back(), Edge.STATE);
        Edge.due("NOW", x.of(0, 10), 1);
        leads("refused", x, 1, 1, 2, 0, 2);
        Edge.due("told stays", x.tell(0, 3), 3);
        x.day();
        Edge.due("a day is no image", x.back(), Edge.STATE);
        Edge.due("an image of minute 0", x.image(), 0);
        x.pass();
        Edge.due("laid back", x.back(), 0);
        Edge.due("laid back at once", x.back(), 0);
        Edge.due("BEGINS is rung", x.of(0, 11), 1);
        Edge.begins(x, 3);
        Edge.due("as it is when the first minute passes", x.of(0, 11), 3);
    }

    private static void undo() {
        Edge.says("`int undo()`: UNDONE: how many may still be. STATE: none.");
        RungByHeart x = Edge.fresh();
        x.farm(2, 2);
        Edge.due("a farm is no change", x.undo(), Edge.STATE);
        x.mend(0, 0, 2);
        Edge.due("the same number is none", x.undo(), Edge.STATE);
        x.mend(0, 0, 10);
        Edge.due("what is refused is none", x.undo(), Edge.STATE);
        x.mend(0, 0, 3);
        x.mend(0, 0, 4);
        Edge.due("undone", x.undo(), 1);
        Edge.due("undone", x.undo(), 0);
        Edge.due("none", x.undo(), Edge.STATE);
        Edge.due("FAR", x.of(0, 0), 2);
        Edge.due("both may be done again", x.redo(), 1);
        Edge.due("FAR", x.of(0, 0), 3);
    }

    private static void redo() {
        Edge.says("`int redo()`: DONE AGAIN: how many may still be. STATE: none.");
        RungByHeart x = Edge.fresh();
        Edge.due("none", x.redo(), Edge.STATE);
        x.mend(0, 5, 10);
        Edge.due("none was undone", x.redo(), Edge.STATE);
        x.undo();
        Edge.due("none to undo", x.undo(), Edge.STATE);
        Edge.due("done again", x.redo(), 0);
        Edge.due("none", x.redo(), Edge.STATE);
        Edge.due("QUORUM", x.of(0, 5), 10);
        Edge.due("it may be undone", x.count(2), 1);
        x.undo();
        x.mend(0, 5, 1);
        Edge.due("the same number came behind: none", x.redo(), 0);
        x.undo();
        x.mend(0, 5, 2);
        Edge.due("another came behind", x.redo(), Edge.STATE);
        Edge.due("QUORUM", x.of(0, 5), 2);
        Edge.due("undone", x.undo(), 0);
        Edge.due("QUORUM", x.of(0, 5), 1);
    }
}
