/** Promises 7 to 11, 39 to 42 and 51: what riders, cradles, parties and the whole are like. */
public final class LookTest {
    private static final Check CHECK = new Check("LookTest");

    public static void main(String[] args) {
        riders();
        cradles();
        parties();
        whole();
        counts();
        CHECK.finish();
    }

    private static TopWheel wheel() {
        TopWheel x = new TopWheel();
        CHECK.fair(x, "rider weight 4 purse 70 party 1 in 2;rider weight 5 purse 80 party 1 in 2;"
                + "rider weight 6 purse 80 party 2 in 6;rider weight 7 purse 0 party 3;"
                + "rider weight 8 purse 10 party 1;rider weight 1 purse 20 party 0 in 3;top 2;bolts 1 0;bolts 4 2;bolts 5 2");
        return x;
    }

    private static void riders() {
        TopWheel x = wheel();
        int[][] due = {
            {2, 4, 70, 1, 5, 4, 2, -1},
            {2, 5, 80, 1, 5, 4, 1, -1},
            {6, 6, 80, 2, 5, 0, 0, -1},
            {-1, 7, 0, 3, 0, -1, 0, 0},
            {-1, 8, 10, 1, 0, -1, 0, 1},
            {3, 1, 20, 0, 5, 3, 0, -1}};
        for (int r = 0; r < due.length; r++) {
            for (int what = 0; what < 8; what++) {
                CHECK.same("rider(" + r + ", " + what + ")", x.rider(r, what), due[r][what]);
            }
        }
        CHECK.fair(x, "rider weight 1 purse 1 party 0 in 0;rider weight 1 purse 1 party 0 in 4");
        CHECK.same("level on the other side", x.rider(6, 6), 128);
        CHECK.same("the other way round", x.rider(7, 6), 64);
        CHECK.index("rider(-1, 0)", () -> x.rider(-1, 0));
        CHECK.index("rider(8, 9)", () -> x.rider(8, 9));
        CHECK.element("rider(0, 8)", () -> x.rider(0, 8));
        CHECK.element("rider(0, -1)", () -> x.rider(0, -1));
    }

    private static void cradles() {
        TopWheel x = wheel();
        int[][] due = {
            {5, 0, 6, 2, 0, 60},
            {0, 0, 7, 3, 0, 70},
            {5, 3, 0, 4, 9, 0},
            {5, 32, 1, 3, 1, 10},
            {2, 0, 2, 2, 0, 20},
            {2, 0, 3, 1, 0, 30},
            {5, 4, 4, 0, 6, 40},
            {5, 0, 5, 1, 0, 50}};
        for (int c = 0; c < due.length; c++) {
            for (int what = 0; what < 6; what++) {
                CHECK.same("cradle(" + c + ", " + what + ")", x.cradle(c, what), due[c][what]);
            }
        }
        CHECK.index("cradle(-1, 0)", () -> x.cradle(-1, 0));
        CHECK.index("cradle(8, 7)", () -> x.cradle(8, 7));
        CHECK.element("cradle(7, 6)", () -> x.cradle(7, 6));
        CHECK.element("cradle(7, -1)", () -> x.cradle(7, -1));
    }

    private static void parties() {
        TopWheel x = wheel();
        int[][] due = {{0, 32, 1, 0}, {0, 19, 9, 8}, {0, 4, 6, 0}, {0, 8, 0, 0}};
        for (int p = 0; p < due.length; p++) {
            for (int what = 0; what < 4; what++) {
                CHECK.same("party(" + p + ", " + what + ")", x.party(p, what), due[p][what]);
            }
        }
        CHECK.index("party(-1, 0)", () -> x.party(-1, 0));
        CHECK.index("party(4, 9)", () -> x.party(4, 9));
        CHECK.element("party(3, 4)", () -> x.party(3, 4));
        CHECK.element("party(3, -1)", () -> x.party(3, -1));
        CHECK.same("bribing changes no terms", x.party(1, 0), 0);
    }

    private static void whole() {
        TopWheel x = wheel();
        CHECK.same("governor", x.governor(), 0);
        x.off(0);
        CHECK.same("governor is the next one then", x.governor(), 1);
        x.off(1);
        CHECK.same("no governor", x.governor(), -1);
        x.undo();
        x.undo();
        CHECK.same("richest, of several the least", x.richest(), 1);
        CHECK.same("room", x.room(), 255 - 4 - 2);
        CHECK.same("pairs", x.pairs(), 1);
        CHECK.same("weakest", x.weakest(), 1);
        x.bolt(1);
        x.bolt(1);
        CHECK.same("weakest, of several the least", x.weakest(), 1);
        x.bolt(1);
        CHECK.same("weakest is another", x.weakest(), 4);
        CHECK.fair(x, "rider weight 1 purse 999 party 1;rider weight 1 purse 0 party 1 in 3");
        CHECK.same("richest waits", x.richest(), 6);
        CHECK.same("unlike ones are no pair", x.pairs(), 1);
        TopWheel poor = new TopWheel();
        CHECK.fair(poor, "rider weight 1 purse 0 party 1");
        CHECK.same("richest with nothing", poor.richest(), 0);
    }

    private static void counts() {
        TopWheel x = wheel();
        int[] due = {6, 1, -1, 0, 2, 5, 0, 4, 0, 2, 2, 260, 29, 0, 0, -1};
        for (int what = 0; what < due.length; what++) {
            CHECK.same("count(" + what + ")", x.count(what), due[what]);
        }
        CHECK.fair(x, "wind 7;reach 3;chest 88;fare 6");
        CHECK.law(x, "go 1;go 2");
        x.stops(3);
        x.fare(9);
        int[] then = {6, 2, 2, 3, x.count(4), 9, x.count(6), 3, 7, x.count(9), x.count(10), x.count(11), x.count(12), 3, 2};
        for (int what = 0; what < then.length; what++) {
            CHECK.same("count(" + what + ") then", x.count(what), then[what]);
        }
        CHECK.same("what purses lost the chest has", x.count(11) + x.count(6), 260 + 88);
        CHECK.same("count(15)", x.count(15), -1);
        CHECK.same("count(-1)", x.count(-1), -1);
    }
}
