import java.io.IOException;
import java.nio.charset.StandardCharsets;
import java.nio.file.Files;
import java.nio.file.Path;
import java.util.ArrayList;
import java.util.List;
import java.util.function.IntToLongFunction;
import java.util.regex.Matcher;
import java.util.regex.Pattern;

/** What the tests of the document's edges share: the sentence at hand, what is due, and objects to begin with. */
final class Edge {
    static final int BAD = -1, NOT = -2, FULL = -3, STATE = -5;
    static final int NOTHING = -11, OTHER = -12, PLACE = -13, SIZE = -14;
    static final int MIN = Integer.MIN_VALUE, MAX = Integer.MAX_VALUE;

    private static final Path DOCUMENT = Path.of("../shared/DOC.md");
    // What a sentence says that names an edge.
    private static final Pattern EDGE = Pattern.compile("\\d \\.\\. |BAD|NOT\\b|FULL|STATE|-1[1-4]|\\b[Nn]one\\b|nothing"
        + "|at most|at least|at first|[Ll]east\\b|first\\b|last\\b|latest|wrap|by 0|toward 0|within|no more than|lack"
        + "|too early|too\\)|empty|above 60|missing|lowest bits|ahead of minute 0|[Ww]ithout");

    private static final List<String> sentences = new ArrayList<>();
    private static String sentence = "";
    private static int wrong = 0;
    private static int rows = 0;

    private Edge() {
    }

    /** From here on the rows are those of a sentence of the document, told in its own words. */
    static void says(String words) {
        sentence = words;
        sentences.add(words);
    }

    static void due(String call, long got, long want) {
        rows++;
        if (got != want) {
            tellWrong(call + " answered " + got + ", due is " + want);
        }
    }

    static void due(String call, String got, String want) {
        rows++;
        if (!got.equals(want)) {
            tellWrong(call + " answered " + got + ", due is " + want);
        }
    }

    private static void tellWrong(String what) {
        wrong++;
        if (wrong < 200) {
            System.out.println("\"" + sentence + "\": " + what);
        }
    }

    /** Asks with numbers from below the least to above the most: outside them BAD is due. */
    static void range(String call, int least, int most, IntToLongFunction asked, IntToLongFunction want) {
        for (int v = least - 3; v <= most + 3; v++) {
            due(call + " " + v, asked.applyAsLong(v), v < least || v > most ? BAD : want.applyAsLong(v));
        }
        int[] far = {MIN, MIN + 1, -65536, -256, 65536 + Math.max(0, most), MAX - 1, MAX};
        for (int v : far) {
            due(call + " " + v, asked.applyAsLong(v), BAD);
        }
    }

    static RungByHeart fresh() {
        return new RungByHeart();
    }

    static int lawOf(RungByHeart x, String text) {
        for (int i = 0; i < text.length(); i++) {
            x.feed(text.charAt(i));
        }
        return x.law();
    }

    static RungByHeart withLaw(String text) {
        RungByHeart x = fresh();
        due("law \"" + text + "\"", lawOf(x, text), 1);
        return x;
    }

    /** Rings 0 1 2 3 0 1 2 3 .. by its law. */
    static RungByHeart scale() {
        RungByHeart x = withLaw("m%4");
        begins(x, 0);
        return x;
    }

    static void bytes(RungByHeart x, int shelf, int... values) {
        due("row", x.row(shelf, 0, values.length), 1);
        for (int i = 0; i < values.length; i++) {
            due("put", x.put(shelf, i, values[i]), 1);
        }
    }

    /** A farm that does one sign from minute 0 on. */
    static int sham(RungByHeart x, int does) {
        int number = x.farm(0, 5);
        x.mend(number, 3, does);
        return number;
    }

    static void begins(RungByHeart x, int sign) {
        x.mend(0, 6, sign);
    }

    /** As many farms as are told, which do nothing. */
    static RungByHeart deafFarms(int many) {
        RungByHeart x = fresh();
        for (int f = 0; f < many; f++) {
            due("farm", x.farm(0, 1), f);
        }
        return x;
    }

    /** Each sentence stands in the document once, and none that names an edge lacks its test. */
    static void compareWithDocument() throws IOException {
        if (!Files.exists(DOCUMENT)) {
            System.out.println("no " + DOCUMENT + " here: the sentences are not compared with it");
            return;
        }
        String all = new String(Files.readAllBytes(DOCUMENT), StandardCharsets.UTF_8).replaceAll("\\s+", " ");
        boolean[] tested = new boolean[all.length()];
        for (String words : sentences) {
            sentence = words;
            int at = all.indexOf(words);
            due("its place in the document, found", at >= 0 ? 1 : 0, 1);
            due("its place in the document, the only one", all.indexOf(words, at + 1), -1);
            for (int i = Math.max(0, at); i < at + words.length(); i++) {
                tested[i] = true;
            }
        }
        sentence = "no test quotes it";
        Matcher edge = EDGE.matcher(all).region(all.indexOf("An object is used"), all.indexOf("## Not promised"));
        while (edge.find()) {
            if (!tested[edge.start()]) {
                due("the document at \"" + all.substring(Math.max(0, edge.start() - 40), edge.end() + 20) + "\"", 0, 1);
            }
        }
    }

    static void end() {
        System.out.println(wrong == 0 ? rows + " answers are as due" : wrong + " answers are not as due");
        if (wrong != 0) {
            System.exit(1);
        }
    }
}
