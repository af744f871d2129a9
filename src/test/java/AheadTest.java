/** Promises 34 to 38: what is ahead without draws. */
public final class AheadTest {
    private static final Check CHECK = new Check("AheadTest");

    public static void main(String[] args) {
        arguments();
        boards();
        ruled();
        round();
        ruin();
        ahead();
        CHECK.finish();
    }

    private static void arguments() {
        TopWheel x = new TopWheel();
        CHECK.fair(x, "reach 2;rider weight 1 purse 1 party 0");
        CHECK.index("boards(1, 9)", () -> x.boards(1, 9));
        CHECK.index("boards(-1, 0)", () -> x.boards(-1, 0));
        CHECK.argument("boards(0, 2)", () -> x.boards(0, 2));
        CHECK.argument("boards(0, -1)", () -> x.boards(0, -1));
        CHECK.index("ruled(1, 9)", () -> x.ruled(1, 9));
        CHECK.index("ruled(-1, 0)", () -> x.ruled(-1, 0));
        CHECK.argument("ruled(0, 2)", () -> x.ruled(0, 2));
        CHECK.argument("ruled(0, -1)", () -> x.ruled(0, -1));
        CHECK.argument("round(2)", () -> x.round(2));
        CHECK.argument("round(-1)", () -> x.round(-1));
        CHECK.argument("ruin(2, 0)", () -> x.ruin(2, 0));
        CHECK.argument("ruin(0, -1)", () -> x.ruin(0, -1));
        CHECK.argument("ruin(0, 101)", () -> x.ruin(0, 101));
        CHECK.argument("ahead(2, 0, 3)", () -> x.ahead(2, 0, 3));
        CHECK.argument("ahead(0, 101, 3)", () -> x.ahead(0, 101, 3));
        CHECK.argument("ahead(0, -1, 0)", () -> x.ahead(0, -1, 0));
        CHECK.element("ahead(0, 0, 3)", () -> x.ahead(0, 0, 3));
        CHECK.element("ahead(0, 0, -1)", () -> x.ahead(0, 0, -1));
    }

    private static void boards() {
        TopWheel x = new TopWheel();
        CHECK.fair(x, "reach 2;fare 1;rider weight 1 purse 9 party 0 in 3;rider weight 1 purse 1 party 0;rider weight 1 purse 1 party 0;"
                + "rider weight 1 purse 1 party 0;rider weight 1 purse 0 party 0;bolts 5 0");
        CHECK.same("it sits now", x.boards(0, 0), 0);
        CHECK.same("5 is closed", x.boards(1, 0), 2);
        CHECK.same("two at once", x.boards(2, 0), 2);
        CHECK.same("the next one", x.boards(3, 0), 3);
        CHECK.same("the next one by 1", x.boards(3, 1), 2);
        CHECK.same("never", x.boards(4, 0), -1);
        TopWheel late = new TopWheel();
        CHECK.fair(late, "reach 1;fare 1;rider weight 1 purse 12 party 0 in 4;rider weight 1 purse 12 party 0 in 4;"
                + "rider weight 1 purse 1 party 0;bolts 0 0;bolts 1 0;bolts 2 0;bolts 3 0;bolts 5 0;bolts 6 0;bolts 7 0");
        CHECK.same("the twelfth time at the bottom", late.boards(2, 0), 96);
        CHECK.same("it governs by 100", late.ruled(2, 0), 100);
        CHECK.fair(late, "top 7");
        CHECK.same("it would be 101 less 4", late.boards(2, 0), 89);
        CHECK.fair(late, "top 3;bolts 4 1");
        CHECK.same("by 93", late.boards(2, 0), 93);
        TopWheel later = new TopWheel();
        CHECK.fair(later, "reach 1;fare 1;rider weight 1 purse 13 party 0 in 4;rider weight 1 purse 13 party 0 in 4;top 4;"
                + "rider weight 1 purse 1 party 0;bolts 0 0;bolts 1 0;bolts 2 0;bolts 3 0;bolts 5 0;bolts 6 0;bolts 7 0");
        CHECK.same("by 100", later.boards(2, 0), 100);
        CHECK.fair(later, "top 3");
        CHECK.same("it would be by 101", later.boards(2, 0), -1);
        CHECK.fair(later, "top 7");
        CHECK.same("by 97", later.boards(2, 0), 97);
        CHECK.same("it would govern by 101", later.ruled(2, 0), -1);
        TopWheel windy = new TopWheel();
        CHECK.fair(windy, "reach 1;wind 100;rider weight 1 purse 1 party 0;bolts 1 1;bolts 0 0;bolts 2 0;bolts 3 0;bolts 4 0;"
                + "bolts 5 0;bolts 6 0;bolts 7 0");
        CHECK.same("no wind ahead, though the next one would close it", windy.boards(0, 0), 5);
        CHECK.same("and it governs", windy.ruled(0, 0), 9);
        windy.stops(1);
        CHECK.same("now it is closed", windy.boards(0, 0), -1);
    }

    private static void ruled() {
        TopWheel x = new TopWheel();
        CHECK.fair(x, "reach 8;fare 0;rider weight 1 purse 9 party 0 in 0;rider weight 1 purse 9 party 0 in 0;"
                + "rider weight 1 purse 9 party 0 in 7;rider weight 1 purse 9 party 0");
        CHECK.same("now", x.ruled(0, 5), 0);
        CHECK.same("never the second", x.ruled(1, 0), -1);
        CHECK.same("by ones", x.ruled(2, 0), 7);
        CHECK.same("by sevens", x.ruled(2, 6), 1);
        CHECK.same("never by twos", x.ruled(2, 1), -1);
        CHECK.same("it gets in at 5 and comes up", x.ruled(3, 0), 5);
        CHECK.law(x, "go 6");
        CHECK.same("by farther", x.ruled(2, 0), 1);
        TopWheel y = new TopWheel();
        CHECK.fair(y, "fare 5;reach 1;top 7;rider weight 1 purse 5 party 0 in 4;rider weight 1 purse 9 party 0 in 4");
        CHECK.same("when the first got off, the second", y.ruled(1, 0), 5);
    }

    private static void round() {
        TopWheel x = new TopWheel();
        CHECK.fair(x, "fare 1;rider weight 1 purse 99 party 0 in 0;rider weight 1 purse 0 party 1");
        CHECK.same("by ones", x.round(0), 8);
        CHECK.same("by twos", x.round(1), 4);
        CHECK.same("by threes", x.round(2), 8);
        CHECK.same("by fours", x.round(3), 2);
        CHECK.law(x, "go 7");
        CHECK.same("by eights: at once", x.round(0), 1);
        CHECK.fair(x, "fare 99");
        CHECK.law(x, "");
        CHECK.same("it gets off and never in again", x.round(0), -1);
        TopWheel y = new TopWheel();
        CHECK.fair(y, "fare 0;rider weight 1 purse 99 party 0");
        CHECK.same("who waits gets in", y.round(0), -1);
        TopWheel row = new TopWheel();
        CHECK.fair(row, "fare 9;reach 1;rider weight 1 purse 0 party 0;rider weight 1 purse 9 party 0;bolts 5 0;bolts 6 0;"
                + "bolts 7 0;bolts 0 0;bolts 1 0;bolts 2 0;bolts 3 0");
        CHECK.same("in at 8, off at 16", row.boards(1, 0), 8);
        CHECK.same("the row does not matter: as now at once", row.round(0), 16);
        longRounds();
        TopWheel slow = new TopWheel();
        CHECK.law(slow, "go 1 if stop>0");
        CHECK.same("nobody governs, so nothing holds", slow.round(0), 8);
    }

    /** One gets in at the only open cradle, pays 1 each time it is at the bottom, and gets off. */
    private static void longRounds() {
        String closed = ";bolts 0 0;bolts 1 0;bolts 2 0;bolts 3 0;bolts 5 0;bolts 6 0;bolts 7 0";
        int[] due = {16, 24, 32, 40, 48, 56, 64, -1};
        for (int purse = 1; purse <= 8; purse++) {
            TopWheel x = new TopWheel();
            CHECK.fair(x, "reach 1;fare 1;rider weight 1 purse " + purse + " party 0" + closed);
            CHECK.same("round by ones with " + purse, x.round(0), due[purse - 1]);
        }
        for (int purse = 11; purse <= 12; purse++) {
            TopWheel x = new TopWheel();
            CHECK.fair(x, "reach 1;fare 1;rider weight 9 purse 1 party 0 in 0;rider weight 1 purse " + purse + " party 0" + closed);
            CHECK.law(x, "go 3 if weight>8;less 30 if weight>8");
            CHECK.same("round by five with " + purse, x.round(0), purse == 11 ? 60 : -1);
        }
    }

    private static void ruin() {
        TopWheel x = new TopWheel();
        CHECK.fair(x, "reach 1;fare 5;rider weight 1 purse 5 party 0 in 5;rider weight 1 purse 6 party 0 in 6;"
                + "rider weight 1 purse 0 party 0;rider weight 1 purse 50 party 0 in 5");
        CHECK.same("now", x.ruin(0, 0), 4);
        CHECK.same("by 1", x.ruin(0, 1), 5);
        CHECK.same("by 9", x.ruin(0, 9), 5);
        CHECK.same("by 10", x.ruin(0, 10), 7);
        CHECK.same("by 100", x.ruin(0, 100), 15);
        CHECK.same("nothing stays", x.count(3) + x.count(6) + x.count(13), 0);
    }

    private static void ahead() {
        TopWheel x = new TopWheel();
        CHECK.fair(x, "wind 100;bolts 0 1;bolts 1 1;bolts 2 1;bolts 3 1;bolts 4 1;bolts 5 1;bolts 6 1;bolts 7 1;fare 5;chest 7;"
                + "rider weight 1 purse 99 party 0 in 5;rider weight 1 purse 99 party 0 in 2");
        CHECK.law(x, "go 1 if stop<3;go 2;more 1 if stop>1");
        CHECK.same("top now", x.ahead(3, 0, 0), 0);
        CHECK.same("chest now", x.ahead(3, 0, 2), 7);
        CHECK.same("top by 1", x.ahead(3, 1, 0), 6);
        CHECK.same("chest by 1: 2 was at the bottom", x.ahead(3, 1, 2), 12);
        CHECK.same("nobody governs by 1", x.ahead(3, 1, 1), -1);
        CHECK.same("top by 2", x.ahead(3, 2, 0), 4);
        CHECK.same("top by 3", x.ahead(3, 3, 0), 2);
        CHECK.same("the second governs by 3", x.ahead(3, 3, 1), 1);
        CHECK.same("chest by 3", x.ahead(3, 3, 2), 12);
        CHECK.same("top by 4: stop is 3", x.ahead(3, 4, 0), 0);
        CHECK.same("no winds ahead", x.ahead(2, 8, 1) != -2 && x.ahead(3, 5, 2) == 18, true);
        int seed = x.seed(1);
        CHECK.same("no draws ahead", seed, 1);
        CHECK.same("bolts stay", x.count(12), 8);
        CHECK.same("terms stay", x.party(0, 0), 0);
    }
}
