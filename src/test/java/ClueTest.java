/** Promises 30 to 33: moves and fires that were seen. */
public final class ClueTest {
    private static final Check CHECK = new Check("ClueTest");

    public static void main(String[] args) {
        moves();
        watch();
        fire();
        ask();
        wrongTapes();
        CHECK.finish();
    }

    private static int moves(TopWheel x, boolean reach, int... seen) {
        Check.put(x, seen);
        return x.moves(reach);
    }

    private static int watch(TopWheel x, int... seen) {
        Check.put(x, seen);
        return x.watch();
    }

    private static int fire(TopWheel x, int... seen) {
        Check.put(x, seen);
        return x.fire();
    }

    private static int ask(TopWheel x, int... seen) {
        Check.put(x, seen);
        return x.ask();
    }

    private static void moves() {
        TopWheel x = new TopWheel();
        CHECK.same("1: farther 0 alone", moves(x, false, 1), 8);
        CHECK.same("1: the least reach", moves(x, true, 1), 1);
        CHECK.same("17: 9 and 8 alone", moves(x, false, 17), 1);
        CHECK.same("17: reach 8", moves(x, true, 17), 8);
        CHECK.same("18 cannot be", moves(x, false, 18), 0);
        CHECK.same("18: none", moves(x, true, 18), -1);
        CHECK.same("1 and 8: 0 and 8", moves(x, false, 8, 1, 1, 8), 1);
        CHECK.same("1 and 9 cannot be", moves(x, false, 1, 9), 0);
        CHECK.same("3 and 7", moves(x, true, 3, 7), 5);
        CHECK.same("3 and 7: pairs", moves(x, false, 3, 7), 2 + 3 + 4);
        CHECK.same("the tape is used up", x.end(1), false);
        int[] forty = new int[40];
        java.util.Arrays.fill(forty, 10);
        CHECK.same("forty", moves(x, true, forty), 1);
        CHECK.same("no fault is told", x.fault(), -1);
    }

    private static void watch() {
        TopWheel x = new TopWheel();
        CHECK.same("1: reach 1 to 8 of farther 0", watch(x, 1), 5);
        CHECK.same("1, 7: reach 7 or 8", watch(x, 1, 7), 8);
        CHECK.same("17: one is left", watch(x, 17), -1);
        CHECK.same("18: none is left", watch(x, 18), -1);
        CHECK.same("16: 8 and 8, 9 and 7, 9 and 8", watch(x, 16), 9);
        CHECK.same("the tape is used up", x.end(1), false);
    }

    private static void fire() {
        TopWheel x = new TopWheel();
        CHECK.same("seen from 0", fire(x, 0, 1), 1);
        CHECK.same("not seen from 0", fire(x, 0, 0), 62);
        CHECK.same("not seen from 4", fire(x, 4, 0), 32);
        CHECK.same("seen from 4", fire(x, 4, 1), 31);
        CHECK.same("both of one", fire(x, 2, 0, 2, 1), 0);
        CHECK.same("the same twice", fire(x, 2, 0, 2, 0), 56);
        int[] forty = new int[40];
        CHECK.same("forty bytes", fire(x, forty), 62);
        CHECK.same("the tape is used up", x.end(1), false);
    }

    private static void ask() {
        TopWheel x = new TopWheel();
        CHECK.same("0 to 5", ask(x), 2);
        CHECK.same("1 to 5: 2 against 3", ask(x, 0, 0), 2);
        CHECK.same("0 to 4: 2 against 3, of several the least", ask(x, 4, 1), 1);
        CHECK.same("4 or 5", ask(x, 3, 0), 4);
        CHECK.same("5 alone", ask(x, 4, 0), -1);
        CHECK.same("none", ask(x, 4, 0, 4, 1), -1);
        CHECK.same("0 or 1", ask(x, 1, 1), 0);
        CHECK.same("the tape is used up", x.end(1), false);
    }

    private static void wrongTapes() {
        TopWheel x = new TopWheel();
        int[] many = new int[41];
        java.util.Arrays.fill(many, 1);
        int[] pairs = new int[42];
        int[][] noMoves = {{0}, {31}, {1, 0}, {255}, many};
        int[][] noFires = {{1}, {5, 0}, {0, 2}, {0, 1, 255, 0}, {0, 1, 4}, pairs};
        for (int[] bytes : noMoves) {
            CHECK.argument("moves of a wrong tape", () -> moves(x, false, bytes));
            CHECK.same("it is used up", x.end(1), false);
            CHECK.argument("watch of a wrong tape", () -> watch(x, bytes));
            CHECK.same("it is used up", x.end(1), false);
        }
        for (int[] bytes : noFires) {
            CHECK.argument("fire of a wrong tape", () -> fire(x, bytes));
            CHECK.same("it is used up", x.end(1), false);
            CHECK.argument("ask of a wrong tape", () -> ask(x, bytes));
            CHECK.same("it is used up", x.end(1), false);
        }
    }
}
