import java.util.Arrays;

/** Boundary cases of the section Terms: odds, leaning, parties, choices, bribes, clues. */
final class QuestionBounds extends Bounds {
    QuestionBounds(Check check, Document document) {
        super(check, document);
    }

    @Override
    void run() {
        odds();
        best();
        rules();
        lean();
        seat();
        shifts();
        level();
        majority();
        power();
        restsUnlike();
        rests();
        restsAtTheBounds();
        restsOfChoices();
        cost();
        can();
        affords();
        reign();
        moves();
        pairsOfMoves();
        leastReach();
        watch();
        fire();
        ask();
    }

    private void odds() {
        says("ODDS of a CRADLE by N STOPS (1 to 5): in how many ten thousandths (rounded down) it is ON TOP behind them, "
                + "if each goes on by 1 to REACH alike (FARTHER left out).");
        TopWheel x = new TopWheel();
        check.argument("by 0", () -> x.odds(0, 0));
        check.argument("by 6", () -> x.odds(0, 6));
        int[] by1 = {0, 2500, 2500, 2500, 2500, 0, 0, 0};
        int[] by5 = {976, 976, 1132, 1367, 1523, 1523, 1367, 1132};
        for (int c = 0; c < 8; c++) {
            check.same("by 1 of " + c, x.odds(c, 1), by1[c]);
            check.same("by 5 of " + c, x.odds(c, 5), by5[c]);
        }
        check.fair(x, "reach 3;top 7");
        check.same("a third, rounded down", x.odds(0, 1), 3333);
        check.same("round to 2", x.odds(2, 1), 3333);
        check.same("3 is too far", x.odds(3, 1), 0);
        check.law(x, "go 1");
        check.same("farther is left out", x.odds(0, 1), 3333);
        check.fair(x, "reach 8");
        check.same("8 farther is the same one", x.odds(7, 1), 1250);
        check.fair(x, "reach 1");
        check.same("sure", x.odds(4, 5), 10000);
        check.same("never", x.odds(5, 5), 0);
    }

    private void best() {
        says("BEST by N: the CRADLE with room, not CLOSED, of the most such ODDS (of several the least; none).");
        TopWheel x = new TopWheel();
        check.argument("by 0", () -> x.best(0));
        check.argument("by 6", () -> x.best(6));
        check.same("of 1 to 4 the least", x.best(1), 1);
        check.same("of 4 and 5 the least", x.best(5), 4);
        check.fair(x, "bolts 4 0");
        check.same("4 is closed", x.best(5), 5);
        check.fair(x, rider(1, 1, 0, 5));
        check.same("5 has room for one more", x.best(5), 5);
        check.fair(x, rider(1, 1, 0, 5));
        check.same("5 has no room", x.best(5), 3);
        check.fair(x, "reach 1;bolts 1 0");
        check.same("those with room have no odds", x.best(1), 0);
        check.fair(x, onlyOpen(5));
        check.same("all are closed, or without room", x.best(1), NONE);
        check.same("round the wheel", wheel("top 7;reach 2").best(1), 0);
    }

    private void rules() {
        says("RULES of a PARTY by N: the ODDS, together, of CRADLES of whose RIDERS the one of the least number is of that PARTY "
                + "(each rounded down by itself).");
        TopWheel x = wheel("reach 3;" + rider(1, 1, 1, 1) + ";" + rider(1, 1, 2, 1) + ";" + rider(1, 1, 1, 2) + ";" + rider(1, 1, 1, 3)
                + ";" + rider(1, 1, 3) + ";" + rider(1, 1, 2, 3));
        check.argument("by 0", () -> x.rules(1, 0));
        check.argument("by 6", () -> x.rules(1, 6));
        check.same("three thirds, each rounded down", x.rules(1, 1), 9999);
        check.same("of second ones", x.rules(2, 1), 0);
        check.same("of one who waits", x.rules(3, 1), 0);
        check.same("of a party without riders", x.rules(0, 1), 0);
        x.off(0);
        check.same("the second is the first then", x.rules(2, 1), 3333);
        check.same("two thirds", x.rules(1, 1), 6666);
        TopWheel all = wheel("reach 8;" + rider(1, 1, 3, 0) + ";" + rider(1, 1, 3, 7));
        check.same("of the first and of the last cradle", all.rules(3, 1), 2500);
    }

    private void lean() {
        says("LEAN: WEIGHT of all RIDERS in the three CRADLES that are 1 to 3 PLACES behind the top less that of those "
                + "in the three that are 5 to 7 (may be below 0).");
        int[] due = {0, 9, 9, 9, 0, -9, -9, -9};
        for (int top = 0; top < 8; top++) {
            for (int on = 0; on < 8; on++) {
                TopWheel x = wheel("top " + top + ";" + rider(9, 1, 0, (top + on) % 8) + ";" + rider(5, 1, 0));
                check.same("lean by one " + on + " behind top " + top, x.lean(), due[on]);
            }
        }
        check.same("none", new TopWheel().lean(), 0);
        String six = rider(9, 1, 0, 1) + ";" + rider(9, 1, 0, 1) + ";" + rider(9, 1, 0, 2) + ";" + rider(9, 1, 0, 2) + ";"
                + rider(9, 1, 0, 3) + ";" + rider(9, 1, 0, 3);
        check.same("the most", wheel(six).lean(), 54);
        check.same("the least", wheel(six + ";top 4").lean(), -54);
    }

    private void seat() {
        says("SEAT of a RIDER: the CRADLE (not CLOSED, with room, or its own one) in which LEAN would be nearest to 0, "
                + "if that one sat there (of several the least; none).");
        TopWheel x = wheel(rider(4, 1, 0) + ";" + lines(rider(1, 1, 0, 4), 2));
        check.same("of the top and the bottom the least", x.seat(0), 0);
        check.fair(x, "top 4");
        check.same("though it is at the bottom", x.seat(0), 0);
        check.fair(x, "bolts 0 0");
        check.same("0 is closed, 4 has no room: of the others the least", x.seat(0), 1);
        x.off(1);
        check.same("4 has room", x.seat(0), 4);
        x.board(1, 4);
        check.same("its own one, though without room", x.seat(1), 4);
        check.fair(x, "bolts 4 0");
        check.same("its own one, though closed", x.seat(2), 4);
        check.fair(x, onlyOpen(4));
        check.same("none", x.seat(0), NONE);
        TopWheel full = wheel(lines(rider(1, 1, 0, 0), 2) + ";" + lines(rider(1, 1, 0, 4), 2) + ";" + rider(9, 1, 0));
        check.same("0 and 4 have no room: of the others the least", full.seat(4), 1);
        check.fair(full, onlyOpen(0) + ";bolts 7 1");
        check.same("only 7 has room", full.seat(4), 7);
        TopWheel tilt = wheel(rider(5, 1, 0, 1) + ";" + rider(9, 1, 0));
        check.same("below 0 by 4 is nearer than above it by 5", tilt.seat(1), 5);
        TopWheel like = wheel(rider(2, 1, 0, 1) + ";" + rider(4, 1, 0));
        check.same("2 and -2 are as near: the least", like.seat(1), 0);
        check.fair(like, "bolts 0 0;bolts 4 0");
        check.same("-2 is nearer than 6", like.seat(1), 5);
        check.same("its own weight is taken off where it sits", like.seat(0), 1);
        check.fair(like, "bolts 0 1");
        check.same("and put where it would sit", like.seat(0), 0);
    }

    private void shifts() {
        says("SHIFTS: the fewest RIDERS in CRADLES to be taken off so that LEAN is 0: of several sets the least as bits.");
        check.same("no riders", new TopWheel().shifts(), 0);
        check.same("who waits", wheel(rider(9, 1, 0)).shifts(), 0);
        check.same("on top and at the bottom", wheel(rider(9, 1, 0, 0) + ";" + rider(8, 1, 0, 4)).shifts(), 0);
        check.same("even", wheel(rider(9, 1, 0, 1) + ";" + rider(9, 1, 0, 7)).shifts(), 0);
        check.same("of one", wheel(rider(9, 1, 0, 3)).shifts(), 1);
        check.same("both", wheel(rider(1, 1, 0, 1) + ";" + rider(2, 1, 0, 3)).shifts(), 3);
        check.same("one of 3 for two of 1 and 2", wheel(rider(1, 1, 0, 1) + ";" + rider(2, 1, 0, 2) + ";" + rider(3, 1, 0, 3) + ";"
                + rider(3, 1, 0, 5)).shifts(), 4);
        check.same("of several the least", wheel(rider(2, 1, 0, 1) + ";" + rider(2, 1, 0, 2) + ";" + rider(2, 1, 0, 3) + ";"
                + rider(2, 1, 0, 5)).shifts(), 3);
        TopWheel most = wheel(lines(rider(1, 1, 0, 0), 2) + ";" + lines(rider(1, 1, 0, 1), 2) + ";" + lines(rider(1, 1, 0, 2), 2) + ";"
                + lines(rider(1, 1, 0, 3), 2));
        check.same("six of eight", most.shifts(), 252);
        TopWheel last = wheel(rider(1, 1, 0) + ";" + rider(1, 1, 0, 1) + ";" + rider(1, 1, 0, 5) + ";" + rider(1, 1, 0, 5));
        check.same("one of the other side", last.shifts(), 4);
    }

    private void level() {
        says("LEVEL with one: other RIDERS in CRADLES of the same HEIGHT, as bits (of one who WAITS: none).");
        TopWheel x = wheel("top 7;" + rider(1, 1, 0, 0) + ";" + rider(1, 1, 0, 0) + ";" + rider(1, 1, 0, 6) + ";" + rider(1, 1, 0) + ";"
                + rider(1, 1, 0) + ";" + rider(1, 1, 0, 7) + ";" + rider(1, 1, 0, 3) + ";" + rider(1, 1, 0, 3));
        int[] due = {2 + 4, 1 + 4, 1 + 2, 0, 0, 0, 128, 64};
        for (int r = 0; r < 8; r++) {
            check.same("level with " + r, x.rider(r, 6), due[r]);
        }
    }

    private void majority() {
        says("MAJORITY: the fewest PARTIES whose RIDERS in CRADLES have together more than the half of all WEIGHT in CRADLES: "
                + "of several sets the least as bits (0 without RIDERS in CRADLES).");
        check.same("without riders", new TopWheel().majority(), 0);
        check.same("one who waits", wheel(rider(9, 1, 3)).majority(), 0);
        check.same("one alone", wheel(rider(1, 1, 3, 0) + ";" + rider(9, 1, 2)).majority(), 8);
        check.same("one alone of the first party", wheel(rider(1, 1, 0, 0)).majority(), 1);
        check.same("the half is not more than it", wheel(rider(4, 1, 0, 0) + ";" + rider(4, 1, 3, 1)).majority(), 9);
        check.same("more by 1", wheel(rider(4, 1, 0, 0) + ";" + rider(5, 1, 3, 1)).majority(), 8);
        check.same("of several the least", wheel(rider(4, 1, 1, 0) + ";" + rider(4, 1, 2, 1) + ";" + rider(4, 1, 3, 2)).majority(), 6);
        check.same("three of four", wheel(rider(1, 1, 0, 0) + ";" + rider(1, 1, 1, 1) + ";" + rider(1, 1, 2, 2) + ";"
                + rider(1, 1, 3, 3)).majority(), 7);
        check.same("one rather than the least set", wheel(rider(1, 1, 0, 0) + ";" + rider(1, 1, 1, 1) + ";" + rider(1, 1, 2, 2) + ";"
                + rider(9, 1, 3, 3)).majority(), 8);
    }

    private void power() {
        says("POWER of a PARTY: in how many sets of the three others it would make such a majority out of none by joining.");
        int[][] weights = {{1, 1, 1, 1}, {0, 0, 0, 5}, {3, 2, 2, 0}, {4, 4, 0, 0}, {9, 1, 1, 1}, {3, 1, 1, 1}, {0, 0, 0, 0}};
        int[][] due = {{3, 3, 3, 3}, {0, 0, 0, 8}, {4, 4, 4, 0}, {4, 4, 0, 0}, {8, 0, 0, 0}, {7, 1, 1, 1}, {0, 0, 0, 0}};
        for (int i = 0; i < weights.length; i++) {
            TopWheel x = wheel(rider(9, 1, 2));
            for (int p = 0; p < 4; p++) {
                check.fair(x, weights[i][p] == 0 ? "" : rider(weights[i][p], 1, p, p));
            }
            for (int p = 0; p < 4; p++) {
                check.same("power of " + p + " by weights " + Arrays.toString(weights[i]), x.party(p, 3), due[i][p]);
            }
        }
    }

    private void restsUnlike() {
        says("RESTS of two PARTIES (unlike):");
        TopWheel x = wheel(rider(1, 200, 0, 0));
        for (int p = 0; p < 4; p++) {
            int one = p;
            check.argument("rests(" + p + ", " + p + ")", () -> x.rests(one, one));
        }
        check.same("0 and 3", x.rests(0, 3), 4 + 8);
    }

    private void rests() {
        says("each asks for the FARE to be raised by 1 (0) or lowered by 1 (1), unseen; if both ask alike it is done, else it stays; "
                + "a PARTY has what its RIDERS in CRADLES pay together, once each, as PURSE less OWES then");
        TopWheel x = wheel(rider(1, 200, 0, 0) + ";" + rider(1, 200, 1, 1) + ";" + rider(1, 200, 2));
        check.same("both have more by less fare", x.rests(0, 1), 8);
        check.same("one who waits has nothing by it", x.rests(2, 3), 15);
        check.same("against one who waits", x.rests(0, 2), 4 + 8);
        TopWheel y = wheel(rider(1, 2, 0, 0) + ";" + rider(1, 200, 0, 1) + ";" + rider(1, 200, 1, 1));
        check.same("together: one of two has enough", y.rests(0, 1), 8);
    }

    private void restsAtTheBounds() {
        says("(the FARE being 0 to 99; OWES of each by that FARE; PURSE less OWES 0 at least)");
        String two = rider(1, 200, 0, 0) + ";" + rider(1, 200, 1, 1);
        check.same("99 is not raised: raising is staying", wheel(two + ";fare 99").rests(0, 1), 1 + 8);
        check.same("98 is raised", wheel(two + ";fare 98").rests(0, 1), 8);
        check.same("0 is not lowered: lowering is staying", wheel(two + ";fare 0").rests(0, 1), 2 + 4 + 8);
        check.same("1 is lowered", wheel(two + ";fare 1").rests(0, 1), 8);
        check.same("3 less 4, 5 or 6", wheel(rider(1, 3, 0, 0) + ";" + rider(1, 3, 1, 1)).rests(0, 1), 15);
        check.same("4 less 4, 5 or 6", wheel(rider(1, 4, 0, 0) + ";" + rider(1, 4, 1, 1)).rests(0, 1), 15);
        check.same("5 less 4 is 1, less 5 or 6 is 0", wheel(rider(1, 5, 0, 0) + ";" + rider(1, 5, 1, 1)).rests(0, 1), 1 + 8);
        TopWheel free = wheel(two);
        check.law(free, "less 5");
        check.same("nothing is owed by 4 or 5, 1 by 6", free.rests(0, 1), 2 + 4 + 8);
        check.law(free, "less 6");
        check.same("nothing is owed", free.rests(0, 1), 15);
        TopWheel dear = wheel(two + ";fare 0");
        check.law(dear, "more 9");
        check.same("9 is owed by 0, and 0 is not lowered", dear.rests(0, 1), 2 + 4 + 8);
        check.law(free, "less 30;more 30 if party<1");
        check.same("only the first owes", free.rests(0, 1), 4 + 8);
    }

    private void restsOfChoices() {
        says("choices (2 times that of the first one and that of the second one) from which neither would have more "
                + "by the other one of its own: as bits.");
        TopWheel x = wheel(rider(1, 200, 0, 0) + ";" + rider(1, 1, 1, 1));
        check.same("the second has nothing either way: the first lowers", x.rests(0, 1), 4 + 8);
        check.same("the other way round", x.rests(1, 0), 2 + 8);
        check.same("neither has anything by it", x.rests(2, 3), 15);
    }

    private void cost() {
        says("COST of a CRADLE: 10 for each by which THE WHEEL must go on so that it is ON TOP (0, if it is);");
        for (int top = 0; top < 8; top++) {
            TopWheel x = wheel("top " + top + ";chest 70");
            for (int on = 0; on < 8; on++) {
                check.same("cost of " + on + " on from " + top, x.cradle((top + on) % 8, 5), 10 * on);
            }
            check.same("a bribe of 7 brings it there", x.bribe(7), (top + 7) % 8);
            check.same("for its cost", x.count(6), 0);
        }
    }

    private void can() {
        says("CAN: whether the CHEST has that.");
        for (int n = 1; n <= 7; n++) {
            int by = n;
            TopWheel x = wheel("chest " + (10 * n - 1));
            check.same("it has not: " + n, x.affords() >> n & 1, 0);
            check.state("nor can it be bribed", () -> x.bribe(by));
            check.fair(x, "chest " + 10 * n);
            check.same("it has: " + n, x.affords() >> n & 1, 1);
            check.same("and it can be bribed", x.bribe(n), n);
        }
    }

    private void affords() {
        says("AFFORDS: CRADLES that can be brought ON TOP so, as bits.");
        int[] chests = {0, 9, 10, 19, 20, 69, 70, 999};
        int[] due = {64, 64, 64 + 128, 64 + 128, 64 + 128 + 1, 255 - 32, 255, 255};
        for (int i = 0; i < chests.length; i++) {
            check.same("chest " + chests[i], wheel("top 6;chest " + chests[i]).affords(), due[i]);
        }
        check.same("closed ones too", wheel("top 6;chest 10;bolts 7 0;bolts 6 0").affords(), 64 + 128);
    }

    private void reign() {
        says("REIGN: the RIDER of the most PURSE whom the CHEST can bring ON TOP as GOVERNOR (of several the least; none).");
        check.same("no riders", new TopWheel().reign(), NONE);
        check.same("one who waits", wheel(rider(1, 999, 0)).reign(), NONE);
        TopWheel x = wheel(rider(1, 5, 0, 1) + ";" + rider(1, 90, 0, 1) + ";" + rider(1, 5, 0, 0) + ";" + rider(1, 6, 0, 2) + ";"
                + rider(1, 0, 0, 7) + ";chest 0");
        check.same("only who is there", x.reign(), 2);
        check.fair(x, "chest 9");
        check.same("9 is not enough", x.reign(), 2);
        check.fair(x, "chest 10");
        check.same("of several the least", x.reign(), 0);
        check.fair(x, "chest 20");
        check.same("the most purse", x.reign(), 3);
        x.off(0);
        check.same("the second governs, where the first is off", x.reign(), 1);
        check.fair(x, "top 3;chest 30");
        check.same("none", x.reign(), NONE);
        check.fair(x, "chest 40");
        check.same("one with nothing in the purse", x.reign(), 4);
    }

    private static int pairs(TopWheel x, int... seen) {
        Check.put(x, seen);
        return x.moves(false);
    }

    private static int reach(TopWheel x, int... seen) {
        Check.put(x, seen);
        return x.moves(true);
    }

    private static int watched(TopWheel x, int... seen) {
        Check.put(x, seen);
        return x.watch();
    }

    private static int fires(TopWheel x, int... seen) {
        Check.put(x, seen);
        return x.fire();
    }

    private static int asked(TopWheel x, int... seen) {
        Check.put(x, seen);
        return x.ask();
    }

    private void moves() {
        says("MOVES: told are moves of some STOPS (1 to 30 each;");
        TopWheel x = new TopWheel();
        check.same("1", pairs(x, 1), 8);
        check.same("30", pairs(x, 30), 0);
        check.argument("0", () -> pairs(x, 0));
        check.argument("31", () -> pairs(x, 31));
        check.argument("255", () -> pairs(x, 255));
        check.argument("a wrong one behind a right one", () -> pairs(x, 5, 0));
        check.argument("a wrong one ahead of a right one", () -> pairs(x, 31, 5));
    }

    private void pairsOfMoves() {
        says("FARTHER the same unknown 0 to 9 in all, REACH unknown 1 to 8): pairs of FARTHER and REACH by which all these can be: how many;");
        TopWheel x = new TopWheel();
        check.same("none told", pairs(x), 80);
        int[] due = {8, 15, 21, 26, 30, 33, 35, 36, 36, 36, 28, 21, 15, 10, 6, 3, 1, 0, 0};
        for (int move = 1; move <= due.length; move++) {
            check.same("by " + move, pairs(x, move), due[move - 1]);
        }
        check.same("1 and 8", pairs(x, 1, 8), 1);
        check.same("1 and 9", pairs(x, 1, 9), 0);
        check.same("10 and 17", pairs(x, 10, 17), 1);
        check.same("9 and 17", pairs(x, 9, 17), 0);
        check.same("one twice", pairs(x, 17, 17), 1);
    }

    private void leastReach() {
        says("the least REACH of them (none).");
        TopWheel x = new TopWheel();
        check.same("none told", reach(x), 1);
        check.same("1", reach(x, 1), 1);
        check.same("10", reach(x, 10), 1);
        check.same("11: farther is 9 at most", reach(x, 11), 2);
        check.same("17", reach(x, 17), 8);
        check.same("18", reach(x, 18), NONE);
        check.same("3 and 10", reach(x, 3, 10), 8);
        check.same("3 and 11", reach(x, 3, 11), NONE);
        check.same("4 and 5", reach(x, 5, 4), 2);
    }

    private void watch() {
        says("WATCH: the move (1 to 17) by which, if it is seen next, it is asked whether it can be: these pairs are parted (can, cannot) "
                + "so that the greater part is the least (of several the least; none with fewer than two).");
        TopWheel x = new TopWheel();
        check.same("none told: 36 and 44 by 8, 9 or 10", watched(x), 8);
        check.same("1: reach 5 to 8, or 1 to 4", watched(x, 1), 5);
        check.same("1 and 7: two are left", watched(x, 1, 7), 8);
        check.same("16: of three", watched(x, 16), 9);
        check.same("2 and 8: of three, of which one is of farther 0", watched(x, 2, 8), 1);
        check.same("9 and 15: of three, of which one is of farther 7", watched(x, 9, 15), 8);
        check.same("9 and 16: one is left", watched(x, 9, 16), NONE);
        check.same("17: one is left", watched(x, 17), NONE);
        check.same("18: none is left", watched(x, 18), NONE);
    }

    private void fire() {
        says("FIRE: told are HEIGHTS 0 to 4 and whether it was seen from there (1) or not (0): it is seen from some HEIGHT on "
                + "(0 to 5; 5: from none): HEIGHTS that fit, as bits.");
        TopWheel x = new TopWheel();
        check.same("none told", fires(x), 63);
        int[] seen = {1, 3, 7, 15, 31};
        for (int h = 0; h <= 4; h++) {
            check.same("seen from " + h, fires(x, h, 1), seen[h]);
            check.same("not seen from " + h, fires(x, h, 0), 63 - seen[h]);
            check.same("both of " + h, fires(x, h, 0, h, 1), 0);
        }
        check.same("not from 1, but from 3", fires(x, 1, 0, 3, 1), 4 + 8);
        check.same("from 1, but not from 3", fires(x, 1, 1, 3, 0), 0);
        check.same("from 4, but not from 0", fires(x, 4, 1, 0, 0), 2 + 4 + 8 + 16);
        check.argument("height 5", () -> fires(x, 5, 1));
        check.argument("seen 2", () -> fires(x, 4, 2));
        check.argument("height 255", () -> fires(x, 255, 1));
        check.argument("seen 255", () -> fires(x, 0, 255));
    }

    private void ask() {
        says("ASK: the HEIGHT (0 to 4) of which to ask, so that those that fit are parted (seen, not) so that the greater part is the least "
                + "(of several the least; none with fewer than two).");
        TopWheel x = new TopWheel();
        check.same("of six: three and three", asked(x), 2);
        check.same("of 0 to 4: of two and three, or three and two", asked(x, 4, 1), 1);
        check.same("of 1 to 5: of two and three, or three and two", asked(x, 0, 0), 2);
        check.same("of 0 and 1", asked(x, 1, 1), 0);
        check.same("of 4 and 5", asked(x, 3, 0), 4);
        check.same("of 2 to 4", asked(x, 1, 0, 4, 1), 2);
        check.same("0 alone", asked(x, 0, 1), NONE);
        check.same("5 alone", asked(x, 4, 0), NONE);
        check.same("none", asked(x, 2, 0, 2, 1), NONE);
    }
}
