/** Boundary cases of the section Terms: stops, draws, what is ahead, acts, the log. */
final class StopBounds extends Bounds {
    StopBounds(Check check, Document document) {
        super(check, document);
    }

    @Override
    void run() {
        governor();
        goingOn();
        terms();
        bottom();
        paying();
        payingByNumbers();
        payingIntoTheChest();
        payingAll();
        gettingOff();
        gettingIn();
        windBlows();
        windTakes();
        windCloses();
        firstDraw();
        stopIsMore();
        draws();
        ahead();
        aheadIsLikeStops();
        noWindAhead();
        acts();
        log();
    }

    private void governor() {
        says("GOVERNOR: the RIDER of the least number in the CRADLE ON TOP; none.");
        TopWheel x = wheel(rider(1, 1, 0) + ";" + rider(1, 1, 0, 7) + ";" + rider(1, 1, 0, 7) + ";" + rider(1, 1, 0, 0));
        check.same("not the least of all", x.governor(), 3);
        x.off(3);
        check.same("none", x.governor(), NONE);
        check.fair(x, "top 7");
        check.same("the least of two", x.governor(), 1);
        x.off(1);
        check.same("the other", x.governor(), 2);
        x.board(0, 7);
        check.same("one of a lesser number got in behind it", x.governor(), 0);
        check.same("none without riders", new TopWheel().governor(), NONE);
    }

    private void goingOn() {
        says("A STOP: (a) THE WHEEL goes on by FARTHER (by what is ahead of it), and DRAW modulo REACH, and 1: "
                + "ON TOP is so many more, modulo 8.");
        int[] due = {1, 1, 3, 3, 4, 3, 4, 7};
        for (int reach = 1; reach <= 8; reach++) {
            TopWheel x = wheel("reach " + reach);
            x.stops(1);
            check.same("16838 modulo " + reach + " and 1", x.count(4), due[reach - 1]);
        }
        TopWheel most = wheel("reach 8;top 3");
        most.seed(seedFor(d -> d % 8 == 7));
        most.stops(1);
        check.same("8 farther is the same one", most.count(4), 3);
        TopWheel least = wheel("reach 8;top 7");
        least.seed(seedFor(d -> d % 8 == 0));
        least.stops(1);
        check.same("from 7 to 0", least.count(4), 0);
        TopWheel x = wheel("reach 1;fare 0;" + rider(1, 1, 0, 0) + ";" + rider(2, 1, 0, 4));
        check.law(x, "go 3 if weight<2");
        x.stops(1);
        check.same("by the governor ahead of it", x.count(4), 4);
        x.stops(1);
        check.same("the one then goes no farther", x.count(4), 5);
        check.law(x, lines("go 30", 12));
        x.stops(1);
        check.same("360 and 1 farther", x.count(4), (5 + 361) % 8);
    }

    private void terms() {
        says("(b) TERMS of the PARTY of the GOVERNOR then is 1 more.");
        TopWheel x = wheel("reach 1;top 6;fare 0;" + rider(1, 1, 2, 7) + ";" + rider(1, 1, 3, 7) + ";" + rider(1, 1, 1, 6));
        x.stops(1);
        check.same("of the first in it", x.party(2, 0), 1);
        check.same("not of the second in it", x.party(3, 0), 0);
        check.same("not of who governed ahead of it", x.party(1, 0), 0);
        x.stops(1);
        check.same("nobody governs then", x.party(0, 0) + x.party(1, 0) + x.party(2, 0) + x.party(3, 0), 1);
        check.fair(x, "reach 8");
        x.seed(seedFor(d -> d % 8 == 6, Bounds::any, d -> d % 8 == 7));
        x.stops(2);
        check.same("who governs twice", x.party(2, 0), 3);
    }

    private void bottom() {
        says("(The CRADLE at the bottom: 4 PLACES behind the top.)");
        for (int top = 0; top < 8; top++) {
            TopWheel x = wheel("reach 1;top " + (top + 7) % 8 + ";" + rider(1, 9, 0));
            for (int c = 0; c < 4; c++) {
                check.fair(x, rider(1, 9, 0, (top + 3 + c % 3) % 8));
            }
            check.same("one pays", x.stops(1), 5);
            check.same("who is there", x.rider(2, 2), 4);
            check.same("one gets in there", x.rider(0, 0), (top + 4) % 8);
        }
    }

    private void paying() {
        says("(c) Each RIDER in the CRADLE at the bottom, by numbers: pays what it OWES (by all as it is then)");
        TopWheel x = wheel("reach 1;fare 7;" + rider(1, 50, 0, 5) + ";" + rider(1, 50, 0, 5) + ";" + rider(1, 50, 0, 4) + ";"
                + rider(1, 50, 0, 1));
        check.same("both pay", x.stops(1), 14);
        check.same("the first", x.rider(0, 2), 43);
        check.same("the second", x.rider(1, 2), 43);
        check.same("others do not", x.rider(2, 2) + x.rider(3, 2), 100);
        TopWheel y = wheel("reach 1;fare 1;" + rider(1, 50, 0, 5));
        check.law(y, "more 10 if height<1;more 20 if stop>0;less 5 if height>0");
        check.same("by the height then, and the stop ahead of (f)", y.stops(1), 11);
    }

    private void payingByNumbers() {
        says("by numbers: pays what it OWES (by all as it is then)");
        TopWheel x = wheel("reach 1;fare 1;chest 98;" + rider(1, 2, 0, 5) + ";" + rider(1, 90, 0, 5));
        check.law(x, "more 1;more 30 if chest>0;more 7 if alone");
        check.same("the second by a chest of 100, and alone", x.stops(1), 2 + 39);
        TopWheel y = wheel("reach 1;fare 1;chest 97;" + rider(1, 2, 0, 5) + ";" + rider(1, 90, 0, 5));
        check.law(y, "more 1;more 30 if chest>0;more 7 if alone");
        check.same("the second by a chest of 99, and alone", y.stops(1), 2 + 9);
        TopWheel z = wheel("reach 1;fare 1;chest 98;" + rider(1, 3, 0, 5) + ";" + rider(1, 90, 0, 5));
        check.law(z, "more 1;more 30 if chest>0;more 7 if alone");
        check.same("the second by a chest of 100, not alone", z.stops(1), 2 + 32);
    }

    /** No run of calls brings more than 8991 together, so the bound itself cannot be reached. */
    private void payingIntoTheChest() {
        says("into the CHEST (9999 at most)");
        TopWheel x = wheel("reach 1;fare 99;chest 999;" + lines(rider(1, 999, 0, 5), 2));
        check.same("paid", x.stops(1), 198);
        check.same("in the chest", x.count(6), 1197);
        check.same("all of the purses", x.stops(60) + x.stops(20), 1998 - 198);
        check.same("in the chest", x.count(6), 2997);
    }

    private void payingAll() {
        says("or all of PURSE, if that is less;");
        int[] purses = {0, 1, 9, 10, 11};
        int[] due = {0, 1, 9, 10, 10};
        for (int i = 0; i < purses.length; i++) {
            TopWheel x = wheel("reach 1;fare 10;" + rider(1, purses[i], 0, 5));
            check.same("paid of " + purses[i], x.stops(1), due[i]);
            check.same("left of " + purses[i], x.rider(0, 2), purses[i] - due[i]);
            check.same("in the chest", x.count(6), due[i]);
        }
    }

    private void gettingOff() {
        says("with PURSE 0 then it gets off: WAITING, the last one.");
        TopWheel x = wheel("reach 1;fare 10;" + rider(1, 11, 0, 5) + ";" + rider(1, 10, 0, 5) + ";" + rider(1, 0, 0));
        x.stops(1);
        check.same("one is left: it stays", x.rider(0, 0), 5);
        check.same("nothing is left: it gets off", x.rider(1, 0), NONE);
        check.same("the last one", x.rider(1, 7), 1);
        TopWheel both = wheel("reach 1;fare 10;" + rider(1, 0, 0) + ";" + rider(1, 3, 0, 5) + ";" + rider(1, 10, 0, 5));
        both.stops(1);
        check.same("both, by numbers: the first", both.rider(1, 7), 1);
        check.same("both, by numbers: the second", both.rider(2, 7), 2);
        TopWheel free = wheel("reach 1;fare 0;" + rider(1, 0, 0, 5) + ";" + rider(1, 1, 0, 5));
        check.same("who owes nothing", free.stops(1), 0);
        check.same("who has nothing gets off", free.rider(0, 0), NONE);
        check.same("who has something stays", free.rider(1, 0), 5);
        TopWheel closed = wheel("reach 1;" + rider(1, 5, 0, 5) + ";" + rider(1, 9, 0, 5) + ";bolts 5 0");
        check.same("in a closed one they pay, too", closed.stops(1), 10);
        check.same("and get off", closed.rider(0, 7), 0);
        check.same("or stay", closed.rider(1, 0), 5);
    }

    private void gettingIn() {
        says("(d) While the CRADLE at the bottom is not CLOSED and has room, and somebody WAITS with a PURSE above 0: "
                + "the first such one gets in.");
        String row = rider(1, 0, 0) + ";" + rider(1, 1, 0) + ";" + rider(1, 0, 0) + ";" + rider(1, 2, 0) + ";" + rider(1, 3, 0);
        TopWheel x = wheel("reach 1;" + row);
        x.stops(1);
        check.same("the first two with a purse above 0", x.cradle(5, 1), 2 + 8);
        check.same("they have not paid", x.count(6), 0);
        check.same("the others go on waiting in their row", x.rider(0, 7) * 100 + x.rider(2, 7) * 10 + x.rider(4, 7), 12);
        TopWheel one = wheel("reach 1;" + row + ";" + rider(1, 9, 0, 5));
        one.stops(1);
        check.same("there is room for one", one.cradle(5, 1), 2 + 32);
        TopWheel full = wheel("reach 1;" + row + ";" + lines(rider(1, 9, 0, 5), 2));
        full.stops(1);
        check.same("there is no room", full.cradle(5, 1), 32 + 64);
        TopWheel closed = wheel("reach 1;" + row + ";bolts 5 0");
        closed.stops(1);
        check.same("it is closed", closed.cradle(5, 1), 0);
        TopWheel left = wheel("reach 1;" + row + ";" + lines(rider(1, 5, 0, 5), 2));
        left.stops(1);
        check.same("who got off makes room", left.cradle(5, 1), 2 + 8);
        TopWheel poor = wheel("reach 1;" + rider(1, 0, 0));
        poor.stops(1);
        check.same("nobody has anything", poor.count(9), 1);
    }

    private void windBlows() {
        says("(e) If DRAW modulo 100 is below WIND:");
        int[] winds = {0, 1, 1, 50, 50, 99, 99, 100};
        int[] drawn = {0, 0, 1, 49, 50, 98, 99, 99};
        int[] bolts = {40, 39, 40, 39, 40, 39, 40, 39};
        for (int i = 0; i < winds.length; i++) {
            TopWheel x = wheel("wind " + winds[i]);
            int rest = drawn[i];
            x.seed(seedFor(Bounds::any, d -> d % 100 == rest));
            x.stops(1);
            check.same("wind " + winds[i] + ", " + rest, x.count(12), bolts[i]);
        }
    }

    private void windTakes() {
        says("of the CRADLE DRAW modulo 8 one BOLT less (0 at least);");
        for (int c = 0; c < 8; c++) {
            int hit = c;
            for (int bolts : new int[] {9, 1, 0}) {
                TopWheel x = wheel("wind 100;bolts " + c + " " + bolts);
                x.seed(seedFor(Bounds::any, Bounds::any, d -> d % 8 == hit));
                x.stops(1);
                check.same("of " + bolts + " bolts of " + c, x.cradle(c, 0), bolts == 0 ? 0 : bolts - 1);
                check.same("others stay", x.count(12) - x.cradle(c, 0), 35);
            }
        }
    }

    private void windCloses() {
        says("if it is CLOSED then, all in it get off, by numbers: WAITING, the last ones.");
        for (int bolts = 0; bolts <= 2; bolts++) {
            TopWheel x = wheel("wind 100;" + rider(1, 9, 0, 7) + ";" + rider(1, 0, 0) + ";" + rider(1, 9, 0, 7) + ";" + rider(1, 9, 0, 6)
                    + ";" + lines(rider(1, 0, 0), 4) + ";top 7;reach 8;bolts 7 " + bolts);
            x.seed(seedFor(d -> d % 8 == 7, Bounds::any, d -> d % 8 == 7));
            x.stops(1);
            check.same("in it with " + bolts, x.cradle(7, 1), bolts == 2 ? 1 + 4 : 0);
            check.same("the first behind five who waited", x.rider(0, 7), bolts == 2 ? NONE : 5);
            check.same("the second", x.rider(2, 7), bolts == 2 ? NONE : 6);
            check.same("in another one nobody gets off", x.rider(3, 0), 6);
            check.same("they governed in (b)", x.log(0, 2), 0);
        }
    }

    private void firstDraw() {
        says("(The first DRAW is made always.)");
        TopWheel none = new TopWheel();
        none.stops(1);
        check.same("wind 0: two draws a stop", none.seed(1), seedAfter(1, 2));
        TopWheel calm = wheel("wind 58");
        calm.stops(1);
        check.same("58 is not below 58: two draws", calm.seed(1), seedAfter(1, 2));
        TopWheel blown = wheel("wind 59");
        blown.stops(1);
        check.same("58 is below 59: three draws", blown.seed(1), seedAfter(1, 3));
    }

    private void stopIsMore() {
        says("(f) STOP is 1 more (9999 at most).");
        TopWheel x = wheel("reach 1;fare 0;" + rider(1, 9, 0, 5));
        check.law(x, "more 1 if stop>999+999+999+999+999+999+999+999+999+999+8");
        for (int i = 0; i < 166; i++) {
            x.stops(60);
        }
        x.stops(38);
        check.same("9998", x.count(3), 9998);
        check.same("not above 9998", x.rider(0, 4), 0);
        x.stops(1);
        check.same("9999", x.count(3), 9999);
        check.same("above 9998", x.rider(0, 4), 1);
        x.stops(60);
        check.same("9999 at most", x.count(3), 9999);
        check.same("the log has it ahead of (f)", x.log(0, 0), 9999);
        check.same("rows of the log", x.count(13), 60);
    }

    private void draws() {
        says("DRAW: SEED is 1103515245 times SEED and 12345, as an int that goes round; bits 16 to 30 (SEED 1 at first).");
        check.same("1 at first", new TopWheel().seed(9), 1);
        for (int seed : new int[] {0, 1, -1, 12345, MOST, LEAST, 0x7fff0000, 0x80000000}) {
            TopWheel x = wheel("reach 7");
            x.seed(seed);
            x.stops(1);
            check.same("top by seed " + seed, x.count(4), (drawAfter(seed, 1) % 7 + 1) % 8);
            check.same("seed behind " + seed, x.seed(1), seedAfter(seed, 2));
        }
        int high = 1;
        while (seedAfter(high, 1) >= 0) {
            high++;
        }
        TopWheel x = wheel("reach 7");
        x.seed(high);
        x.stops(1);
        check.same("bit 31 is left out", x.count(4), ((seedAfter(high, 1) & MOST) >> 16) % 7 + 1);
    }

    private void ahead() {
        says("AHEAD by N STOPS (0 to 100), each by a told draw (0 to REACH less 1):");
        TopWheel x = wheel("reach 3;top 5");
        check.same("0 is now", x.ahead(2, 0, 0), 5);
        check.same("100 by ones", x.ahead(0, 100, 0), (5 + 100) % 8);
        check.same("100 by threes", x.ahead(2, 100, 0), (5 + 300) % 8);
        check.argument("101", () -> x.ahead(0, 101, 0));
        check.argument("-1", () -> x.ahead(0, -1, 0));
        check.argument("draw 3", () -> x.ahead(3, 1, 0));
        check.argument("draw -1", () -> x.ahead(-1, 1, 0));
    }

    private void aheadIsLikeStops() {
        says("as so many STOPS with that in place of the first DRAW and without (e).");
        String start = "reach 1;fare 9;top 3;" + rider(1, 30, 0, 2) + ";" + rider(2, 50, 1, 2) + ";" + rider(3, 5, 2) + ";"
                + rider(4, 20, 3) + ";bolts 1 1;bolts 5 2";
        TopWheel x = wheel(start);
        check.law(x, "go 2 if rich;more 4 if stop>3;less 3 if alone");
        for (int n = 1; n <= 30; n++) {
            TopWheel y = wheel(start + ";wind 100");
            check.law(y, "go 2 if rich;more 4 if stop>3;less 3 if alone");
            x.stops(1);
            check.same("top by " + n, y.ahead(0, n, 0), x.count(4));
            check.same("governor by " + n, y.ahead(0, n, 1), x.governor());
            check.same("chest by " + n, y.ahead(0, n, 2), x.count(6));
            check.same("no draw was made", y.seed(1), 1);
            check.same("no bolt was taken", y.count(12), 33);
        }
    }

    /** Every cradle has one bolt left, and the wind takes one at each stop: but not ahead. */
    private void noWindAhead() {
        says("in place of the first DRAW and without (e).");
        StringBuilder frail = new StringBuilder("reach 1;fare 5;wind 100");
        for (int c = 0; c < 8; c++) {
            frail.append(";bolts ").append(c).append(" 1");
        }
        for (int seed = 1; seed <= 9; seed++) {
            TopWheel x = wheel(frail.toString(), rider(1, 99, 0, 0) + ";" + rider(1, 99, 0, 7) + ";" + rider(1, 10, 0, 4));
            x.seed(seed);
            check.same("round", x.round(0), 8);
            check.same("ruled", x.ruled(1, 0), 7);
            check.same("ruin", x.ruin(0, 16), 4);
            check.same("governor", x.ahead(0, 16, 1), 0);
            check.same("chest", x.ahead(0, 16, 2), 30);
            TopWheel late = wheel(frail.toString(), onlyOpen(4) + ";" + rider(1, 99, 0));
            late.seed(seed);
            check.same("boards", late.boards(0, 0), 8);
        }
    }

    private void acts() {
        says("ACTS: a WAITING one gets into a CRADLE; one moves over into a CRADLE beside its own one; "
                + "one gets off (WAITING, the last one); a BOLT is set (9 at most); PURSE is paid out of the CHEST (999 at most); "
                + "the FARE is told; a bribe: THE WHEEL goes on so many CRADLES at once (1 to 7), for 10 of the CHEST for each; STOPS.");
        TopWheel x = wheel("chest 999;bolts 3 8;" + rider(1, 990, 0, 7) + ";" + rider(1, 1, 0) + ";" + rider(1, 1, 0));
        x.board(1, 0);
        check.same("gets in", x.rider(1, 0), 0);
        x.move(1, false);
        check.same("moves over", x.rider(1, 0), 7);
        x.off(0);
        check.same("gets off, the last one", x.rider(0, 7), 1);
        check.same("9 bolts", x.bolt(3), 9);
        check.state("a 10th", () -> x.bolt(3));
        check.same("999 in the purse at most", x.dole(0, 10), 999);
        check.same("it was paid out", x.count(6), 989);
        check.same("the fare", x.fare(9), 5);
        check.same("a bribe of 7", x.bribe(7), 7);
        check.same("for 70", x.count(6), 919);
        check.argument("a bribe of 0", () -> x.bribe(0));
        check.argument("a bribe of 8", () -> x.bribe(8));
        check.same("a bribe is no stop", x.count(3), 0);
        x.stops(1);
        check.same("all of these are acts", x.count(14), 8);
        x.seed(1);
        x.image();
        check.same("these are none", x.count(14), 8);
    }

    private void log() {
        says("THE LOG: the latest 60 STOPS: STOP (ahead of (f)), which CRADLE was ON TOP, the GOVERNOR as of (b) (none), "
                + "what was paid in (c).");
        TopWheel x = wheel("reach 1;fare 3;" + rider(1, 999, 0, 4));
        x.stops(1);
        check.same("the first stop is 0", x.log(0, 0), 0);
        check.same("on top", x.log(0, 1), 1);
        check.same("none governs", x.log(0, 2), NONE);
        check.same("nothing is paid", x.log(0, 3), 0);
        x.stops(59);
        check.same("60 rows", x.count(13), 60);
        check.same("the first is there still", x.log(59, 0), 0);
        check.same("the stop of the latest", x.log(0, 0), 59);
        x.stops(1);
        check.same("60 rows at most", x.count(13), 60);
        check.same("the first is gone", x.log(59, 0), 1);
        check.same("the latest", x.log(0, 0), 60);
        check.same("who governed", x.log(0, 1) == 5 && x.log(1, 1) == 4 ? x.log(1, 2) : 99, 0);
        check.same("what was paid by who was at the bottom", x.log(5, 1) == 0 ? x.log(5, 3) : 99, 3);
        check.same("no row 60 ago", x.log(60, 0), -2);
    }
}
