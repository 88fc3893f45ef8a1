import java.util.ArrayList;
import java.util.List;

/** The strokes' ways told by classes of Java's own: which body runs is found by the language, not by a table. */
final class Ways {
    // From each KIND, itself and those above it.
    private static final int[][] UNDER = {{0}, {1, 0}, {2, 0}, {3, 2, 0}, {4, 1, 0}, {5, 3, 2, 0}, {6, 0}, {7, 4, 1, 0}};

    private static List<Integer> ran = new ArrayList<>();

    private Ways() {
    }

    static boolean isUnder(int kind, int top) {
        for (int k : UNDER[kind]) {
            if (k == top) {
                return true;
            }
        }
        return false;
    }

    /** The answer of an act; the bodies that ran stand in order behind it. */
    static int act(int kind, int number, int act, int x) {
        ran = new ArrayList<>();
        Stroke stroke = ofKind(kind);
        stroke.n = number;
        switch (act) {
            case 0:
                return stroke.rings(x);
            case 1:
                return stroke.hears(x);
            case 2:
                return stroke.does(x);
            default:
                return stroke.tells(x);
        }
    }

    static List<Integer> bodies() {
        return ran;
    }

    private static Stroke ofKind(int kind) {
        switch (kind) {
            case 0:
                return new Stroke();
            case 1:
                return new Hat();
            case 2:
                return new Knee();
            case 3:
                return new Lying();
            case 4:
                return new Dog();
            case 5:
                return new Sham();
            case 6:
                return new Deaf();
            default:
                return new Mourner();
        }
    }

    private interface Rings {
        int number();

        default int rings(int x) {
            ran.add(1);
            return x + number();
        }
    }

    private interface Tells {
        int hears(int x);

        int does(int x);

        default int tells(int x) {
            ran.add(2);
            return hears(x) - does(1);
        }
    }

    private static class Stroke implements Rings, Tells {
        private int n;

        @Override
        public int number() {
            return n;
        }

        @Override
        public int hears(int x) {
            ran.add(10);
            return rings(x) * 2;
        }

        @Override
        public int does(int x) {
            ran.add(11);
            return x ^ n;
        }
    }

    private static class Hat extends Stroke {
        @Override
        public int rings(int x) {
            ran.add(20);
            return super.rings(x) + 3;
        }
    }

    private static class Knee extends Stroke {
        @Override
        public int hears(int x) {
            ran.add(30);
            return -super.hears(x);
        }
    }

    private static class Lying extends Knee {
        @Override
        public int does(int x) {
            ran.add(40);
            return super.does(x) * 3;
        }

        @Override
        public int hears(int x) {
            ran.add(41);
            return super.hears(x + 1);
        }
    }

    private static class Dog extends Hat {
        @Override
        public int does(int x) {
            ran.add(50);
            return super.does(x) - rings(2);
        }
    }

    private static class Sham extends Lying {
        @Override
        public int tells(int x) {
            ran.add(60);
            return super.tells(x) ^ 5;
        }
    }

    private static class Deaf extends Stroke {
        @Override
        public int rings(int x) {
            ran.add(70);
            return super.rings(x) * 2;
        }
    }

    private static class Mourner extends Dog {
        @Override
        public int hears(int x) {
            ran.add(80);
            return super.hears(x) + does(2);
        }

        @Override
        public int tells(int x) {
            ran.add(81);
            return super.tells(x) - 1;
        }
    }
}
