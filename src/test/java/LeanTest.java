/** Promises 23 to 29: leaning, parties together, choices, bribes. */
public final class LeanTest {
    private static final Check CHECK = new Check("LeanTest");

    public static void main(String[] args) {
        lean();
        seat();
        shifts();
        majority();
        rests();
        restsByLaw();
        bribes();
        CHECK.finish();
    }

    private static void lean() {
        TopWheel x = new TopWheel();
        int[] due = {0, 7, 7, 7, 0, -7, -7, -7};
        CHECK.fair(x, "rider weight 7 purse 1 party 0 in 6;top 6");
        for (int c = 0; c < 8; c++) {
            CHECK.same("lean " + c + " behind the top", x.lean(), due[c]);
            x.move(0, true);
        }
        CHECK.fair(x, "rider weight 9 purse 1 party 0");
        CHECK.same("who waits does not lean", x.lean(), 0);
        x.board(1, 1);
        x.move(0, false);
        CHECK.same("both", x.lean(), 9 - 7);
    }

    private static void seat() {
        TopWheel x = new TopWheel();
        CHECK.index("seat(-1)", () -> x.seat(-1));
        CHECK.fair(x, "rider weight 5 purse 1 party 0 in 1;rider weight 3 purse 1 party 0;rider weight 2 purse 1 party 0 in 2;"
                + "rider weight 1 purse 1 party 0 in 2;bolts 5 0");
        CHECK.index("seat(4)", () -> x.seat(4));
        CHECK.same("to lean 8 less 3", x.seat(1), 6);
        CHECK.same("3 less 5 is nearer than 3 and 5, or 3", x.seat(0), 6);
        CHECK.same("7 less 1", x.seat(3), 6);
        CHECK.fair(x, "bolts 6 0;bolts 7 0;bolts 2 0");
        CHECK.same("of several the least", x.seat(0), 0);
        CHECK.fair(x, "bolts 0 0;bolts 1 0;bolts 3 0;bolts 4 0");
        CHECK.same("its own one, though closed", x.seat(0), 1);
        CHECK.same("its own one, though closed and without room", x.seat(3), 2);
        CHECK.same("none", x.seat(1), -1);
    }

    private static void shifts() {
        TopWheel x = new TopWheel();
        CHECK.fair(x, "rider weight 4 purse 1 party 0 in 1;rider weight 3 purse 1 party 0 in 2;rider weight 1 purse 1 party 0 in 3;"
                + "rider weight 4 purse 1 party 0 in 5;rider weight 9 purse 1 party 0;rider weight 9 purse 1 party 0 in 0");
        CHECK.same("3 and 1, or the 4 ahead", x.shifts(), 1);
        x.off(0);
        CHECK.same("it leans no way", x.shifts(), 0);
        x.off(3);
        CHECK.same("both", x.shifts(), 6);
        TopWheel y = new TopWheel();
        CHECK.fair(y, "rider weight 2 purse 1 party 0 in 1;rider weight 2 purse 1 party 0 in 2;rider weight 2 purse 1 party 0 in 3;"
                + "rider weight 2 purse 1 party 0 in 6");
        CHECK.same("of several the least as bits", y.shifts(), 3);
    }

    private static void majority() {
        TopWheel x = new TopWheel();
        CHECK.fair(x, "rider weight 3 purse 1 party 0 in 0;rider weight 3 purse 1 party 1 in 1;rider weight 3 purse 1 party 2 in 2;"
                + "rider weight 3 purse 1 party 3 in 3;rider weight 9 purse 1 party 3");
        CHECK.same("the half is not enough", x.majority(), 7);
        CHECK.same("power of each alike", x.party(2, 3), 3);
        x.board(4, 4);
        CHECK.same("one alone", x.majority(), 8);
        CHECK.same("it has all power", x.party(3, 3), 8);
        CHECK.same("others none", x.party(0, 3), 0);
        x.off(4);
        x.off(3);
        CHECK.same("of several the least as bits", x.majority(), 3);
        CHECK.same("a party without riders in cradles", x.party(3, 3), 0);
        x.off(0);
        x.off(1);
        x.off(2);
        CHECK.same("without riders in cradles", x.majority(), 0);
        CHECK.same("and no power", x.party(1, 3), 0);
    }

    private static void rests() {
        TopWheel x = new TopWheel();
        CHECK.index("rests(4, 4)", () -> x.rests(4, 4));
        CHECK.index("rests(-1, 0)", () -> x.rests(-1, 0));
        CHECK.index("rests(0, 4)", () -> x.rests(0, 4));
        CHECK.argument("rests(3, 3)", () -> x.rests(3, 3));
        CHECK.fair(x, "rider weight 1 purse 50 party 0 in 0;rider weight 1 purse 0 party 1 in 1;rider weight 1 purse 50 party 2 in 1;"
                + "rider weight 1 purse 99 party 3");
        CHECK.same("both have more by lowering", x.rests(0, 2), 8);
        CHECK.same("the other has nothing either way: the first lowers, or its asking is in vain", x.rests(0, 1), 4 + 8);
        CHECK.same("the other way round", x.rests(1, 0), 2 + 8);
        CHECK.same("one who waits has no choice", x.rests(3, 1), 15);
        CHECK.fair(x, "fare 0");
        CHECK.same("it cannot be lowered: alike or not is one", x.rests(0, 2), 2 + 4 + 8);
        CHECK.fair(x, "fare 99");
        CHECK.same("nobody has enough for 98", x.rests(0, 2), 15);
    }

    private static void restsByLaw() {
        TopWheel x = new TopWheel();
        CHECK.fair(x, "rider weight 1 purse 50 party 0 in 0;rider weight 1 purse 50 party 1 in 1;fare 0");
        CHECK.law(x, "less 1 if party<1");
        CHECK.same("the first owes nothing by 0 or by 1", x.rests(0, 1), 2 + 4 + 8);
        CHECK.fair(x, "fare 1");
        CHECK.same("by 2, 1 or 0: the first minds 2 alone", x.rests(0, 1), 8 + 2);
        CHECK.same("by 2, 1 or 0: the other way round", x.rests(1, 0), 8 + 4);
        CHECK.law(x, "more 1 if stop<1;less 30 if stop>0");
        x.stops(1);
        CHECK.same("nobody owes by any fare", x.rests(0, 1), 15);
    }

    private static void bribes() {
        TopWheel x = new TopWheel();
        CHECK.same("the one on top costs nothing", x.affords(), 1);
        CHECK.same("nobody to reign", x.reign(), -1);
        CHECK.fair(x, "top 6;chest 29;rider weight 1 purse 5 party 0 in 0;rider weight 1 purse 99 party 0 in 0;"
                + "rider weight 1 purse 90 party 0 in 1;rider weight 1 purse 5 party 0 in 7;rider weight 1 purse 999 party 0");
        CHECK.same("6, 7 and 0", x.affords(), 64 + 128 + 1);
        CHECK.same("the first of those alike; the second in a cradle does not govern", x.reign(), 0);
        CHECK.fair(x, "chest 30");
        CHECK.same("and 1", x.affords(), 64 + 128 + 1 + 2);
        CHECK.same("the third", x.reign(), 2);
        CHECK.fair(x, "chest 70");
        CHECK.same("all", x.affords(), 255);
        x.off(0);
        CHECK.same("the second governs then", x.reign(), 1);
        CHECK.fair(x, "chest 0");
        CHECK.same("none on top", x.reign(), -1);
    }
}
