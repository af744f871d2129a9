/** Promises 20 to 22: odds, the best cradle, which party rules. */
public final class OddsTest {
    private static final Check CHECK = new Check("OddsTest");

    public static void main(String[] args) {
        odds();
        best();
        rules();
        CHECK.finish();
    }

    private static void odds() {
        TopWheel x = new TopWheel();
        CHECK.index("odds(8, 0)", () -> x.odds(8, 0));
        CHECK.index("odds(-1, 1)", () -> x.odds(-1, 1));
        CHECK.argument("odds(0, 0)", () -> x.odds(0, 0));
        CHECK.argument("odds(0, 6)", () -> x.odds(0, 6));
        CHECK.fair(x, "reach 3;top 6");
        CHECK.law(x, "go 1");
        int[] one = {3333, 3333, 0, 0, 0, 0, 0, 3333};
        int[] two = {1111, 2222, 3333, 2222, 1111, 0, 0, 0};
        for (int c = 0; c < 8; c++) {
            CHECK.same("odds(" + c + ", 1)", x.odds(c, 1), one[c]);
            CHECK.same("odds(" + c + ", 2)", x.odds(c, 2), two[c]);
        }
        CHECK.fair(x, "reach 8");
        for (int n = 1; n <= 5; n++) {
            CHECK.same("all are alike by " + n, x.odds(3, n), 1250);
        }
        CHECK.fair(x, "reach 7;top 0");
        CHECK.same("of 16807 ways, 2101 go by any but the round", x.odds(0, 5), 2100 * 10000 / 16807);
        CHECK.same("the like of others", x.odds(5, 5), 2101 * 10000 / 16807);
        CHECK.fair(x, "reach 1");
        CHECK.same("reach 1 is sure", x.odds(5, 5), 10000);
        CHECK.same("and not", x.odds(4, 5), 0);
    }

    private static void best() {
        TopWheel x = new TopWheel();
        CHECK.argument("best(0)", () -> x.best(0));
        CHECK.argument("best(6)", () -> x.best(6));
        CHECK.argument("best(-1)", () -> x.best(-1));
        CHECK.fair(x, "bolts 1 0;rider weight 1 purse 1 party 0 in 2;rider weight 1 purse 1 party 0 in 2");
        CHECK.same("not the closed one, nor the one without room", x.best(1), 3);
        x.off(0);
        CHECK.same("with room again", x.best(1), 2);
        CHECK.fair(x, "reach 1");
        CHECK.same("all with room have none: the least", x.best(1), 0);
        CHECK.fair(x, "bolts 0 0;bolts 2 0;bolts 3 0;bolts 4 0;bolts 5 0;bolts 6 0;bolts 7 0");
        CHECK.same("all are closed", x.best(3), -1);
    }

    private static void rules() {
        TopWheel x = new TopWheel();
        CHECK.index("rules(4, 0)", () -> x.rules(4, 0));
        CHECK.index("rules(-1, 1)", () -> x.rules(-1, 1));
        CHECK.argument("rules(0, 0)", () -> x.rules(0, 0));
        CHECK.argument("rules(3, 6)", () -> x.rules(3, 6));
        CHECK.fair(x, "reach 3;rider weight 1 purse 1 party 2 in 1;rider weight 1 purse 1 party 1 in 1;"
                + "rider weight 1 purse 1 party 2 in 2;rider weight 1 purse 1 party 1 in 3;rider weight 1 purse 1 party 1 in 4;"
                + "rider weight 1 purse 1 party 3");
        CHECK.same("each is rounded down by itself", x.rules(2, 1), 6666);
        CHECK.same("the one of the least number is of it", x.rules(1, 1), 3333);
        CHECK.same("one who waits rules nothing", x.rules(3, 1), 0);
        CHECK.same("by two stops", x.rules(1, 2), 2222 + 3333);
        CHECK.same("by two stops: the other", x.rules(2, 2), 1111);
    }
}
