/** Promises 19 and 43 to 47: stops, trials, spans, the log, the seed. The draws from seed 1 begin 16838, 5758, 10113, 17515, 31051, 5627. */
public final class StopTest {
    private static final Check CHECK = new Check("StopTest");

    public static void main(String[] args) {
        draws();
        winds();
        windClosesTheTop();
        paying();
        payingInTurn();
        gettingIn();
        fartherIsAhead();
        chestIsFull();
        log();
        led();
        trials();
        manyStops();
        CHECK.finish();
    }

    private static void draws() {
        TopWheel x = new TopWheel();
        CHECK.argument("stops(0)", () -> x.stops(0));
        CHECK.argument("stops(-1)", () -> x.stops(-1));
        CHECK.argument("stops(61)", () -> x.stops(61));
        x.stops(1);
        CHECK.same("16838 modulo 4 and 1", x.count(4), 3);
        x.stops(1);
        CHECK.same("10113 modulo 4 and 1", x.count(4), 5);
        x.stops(1);
        CHECK.same("31051 modulo 4 and 1", x.count(4), 1);
        CHECK.same("seed", x.seed(1), seedAfter(6));
        x.stops(1);
        CHECK.same("16838 again", x.count(4), 4);
        CHECK.same("seed(-5)", x.seed(-5), seedAfter(2));
        CHECK.same("seed(0)", x.seed(0), -5);
    }

    private static int seedAfter(int draws) {
        int seed = 1;
        for (int i = 0; i < draws; i++) {
            seed = 1103515245 * seed + 12345;
        }
        return seed;
    }

    private static void winds() {
        TopWheel x = new TopWheel();
        CHECK.fair(x, "wind 100;bolts 1 1;rider weight 1 purse 0 party 0 in 1;rider weight 1 purse 0 party 0 in 1;"
                + "rider weight 1 purse 0 party 0");
        x.stops(1);
        CHECK.same("the third draw is of the cradle: 10113 modulo 8", x.cradle(1, 0), 0);
        CHECK.same("all in it get off", x.cradle(1, 1), 0);
        CHECK.same("the first of them behind who waited", x.rider(0, 7), 1);
        CHECK.same("the second of them", x.rider(1, 7), 2);
        CHECK.same("the fourth draw is the next stop's: 17515 modulo 4 and 1", x.ahead(3, 0, 0), 3);
        x.stops(1);
        CHECK.same("top", x.count(4), 7);
        CHECK.same("5627 modulo 8", x.cradle(3, 0), 4);
        TopWheel calm = new TopWheel();
        CHECK.fair(calm, "wind 58");
        calm.stops(1);
        CHECK.same("58 is not below 58", calm.count(12), 40);
        TopWheel windy = new TopWheel();
        CHECK.fair(windy, "wind 59");
        windy.stops(1);
        CHECK.same("58 is below 59", windy.count(12), 39);
        TopWheel closed = new TopWheel();
        CHECK.fair(closed, "wind 100;rider weight 1 purse 9 party 0 in 1;bolts 1 0");
        CHECK.same("it stays at first", closed.rider(0, 0), 1);
        closed.stops(1);
        CHECK.same("it gets off a cradle that was closed before", closed.rider(0, 0), -1);
        CHECK.same("bolts 0 at least", closed.cradle(1, 0), 0);
    }

    private static void windClosesTheTop() {
        TopWheel x = new TopWheel();
        CHECK.fair(x, "wind 100;top 6;bolts 1 1;rider weight 1 purse 9 party 2 in 1");
        x.stops(1);
        CHECK.same("top", x.count(4), 1);
        CHECK.same("nobody governs behind the wind", x.governor(), -1);
        CHECK.same("the log has who governed ahead of it", x.log(0, 2), 0);
        CHECK.same("its party had the term", x.party(2, 0), 1);
    }

    private static void paying() {
        TopWheel x = new TopWheel();
        CHECK.fair(x, "reach 1;fare 10;rider weight 1 purse 25 party 0 in 5;rider weight 1 purse 10 party 1 in 5;"
                + "rider weight 1 purse 3 party 1 in 6;rider weight 1 purse 0 party 1 in 7;rider weight 1 purse 99 party 3 in 1");
        CHECK.same("20 are paid", x.stops(1), 20);
        CHECK.same("the first has some left", x.rider(0, 2), 15);
        CHECK.same("it stays", x.rider(0, 0), 5);
        CHECK.same("the other has nothing left", x.rider(1, 2), 0);
        CHECK.same("it gets off", x.rider(1, 0), -1);
        CHECK.same("chest", x.count(6), 20);
        CHECK.same("term of who is on top", x.party(3, 0), 1);
        CHECK.same("one pays all it has", x.stops(1), 3);
        CHECK.same("it gets off", x.rider(2, 7), 1);
        CHECK.same("one has nothing to pay", x.stops(1), 0);
        CHECK.same("it gets off too", x.rider(3, 7), 2);
        CHECK.same("nobody of the row has anything to get in with", x.stops(5), 10);
        CHECK.same("two more pay", x.stops(7), 20);
        x.fare(0);
        CHECK.law(x, "less 30");
        x.stops(8);
        CHECK.same("who owes nothing and has some stays", x.rider(0, 0), 5);
        CHECK.same("with its purse", x.rider(0, 2), 5);
    }

    private static void payingInTurn() {
        TopWheel x = new TopWheel();
        CHECK.fair(x, "reach 1;fare 10;chest 95;rider weight 1 purse 10 party 0 in 5;rider weight 1 purse 90 party 1 in 5");
        CHECK.law(x, "more 7 if alone;more 20 if chest>0;less 1 if stop>0");
        CHECK.same("the second pays as one who is alone, by a chest that has more", x.stops(1), 10 + 37);
        CHECK.same("chest", x.count(6), 142);
        TopWheel y = new TopWheel();
        CHECK.fair(y, "reach 1;fare 1;rider weight 1 purse 90 party 0 in 5;rider weight 1 purse 90 party 1 in 5");
        CHECK.law(y, "more 7 if alone;more 1 if height<1;more 1 if stop<1");
        CHECK.same("both by the height at the bottom and the stop ahead", y.stops(1), 6);
    }

    private static void gettingIn() {
        TopWheel x = new TopWheel();
        CHECK.fair(x, "reach 1;rider weight 1 purse 0 party 0;rider weight 1 purse 9 party 1;rider weight 1 purse 8 party 1;"
                + "rider weight 1 purse 7 party 1;bolts 6 0");
        x.stops(1);
        CHECK.same("two get in", x.cradle(5, 1), 6);
        CHECK.same("who has nothing waits on, first", x.rider(0, 7), 0);
        CHECK.same("the next waits", x.rider(3, 7), 1);
        x.stops(1);
        CHECK.same("a closed one takes nobody", x.rider(3, 7), 1);
        x.stops(1);
        CHECK.same("the next one takes one", x.cradle(7, 1), 8);
        TopWheel y = new TopWheel();
        CHECK.fair(y, "reach 1;fare 9;rider weight 1 purse 9 party 0 in 5;rider weight 1 purse 9 party 0");
        y.stops(1);
        CHECK.same("who gets in does not pay at once", y.rider(1, 2), 9);
        CHECK.same("it sits where one got off", y.rider(1, 0), 5);
    }

    private static void fartherIsAhead() {
        TopWheel x = new TopWheel();
        CHECK.fair(x, "reach 1;rider weight 1 purse 9 party 0 in 0;rider weight 2 purse 9 party 0 in 3");
        CHECK.law(x, "go 2 if weight<2;go 30 if weight>1;go 1 if stop>0");
        x.stops(1);
        CHECK.same("by who governed ahead of it", x.count(4), 3);
        x.stops(1);
        CHECK.same("30 and 1 and 1 farther", x.count(4), (3 + 32) % 8);
    }

    /** As much as can be told: no run of calls brings more into a chest than this. */
    private static void chestIsFull() {
        TopWheel x = new TopWheel();
        CHECK.fair(x, "reach 1;fare 99;chest 999");
        for (int i = 0; i < 8; i++) {
            CHECK.fair(x, "rider weight 1 purse 999 party 0 in " + i);
        }
        CHECK.same("all is paid", x.stops(60) + x.stops(60), 7992);
        CHECK.same("chest", x.count(6), 8991);
        CHECK.same("nobody has anything", x.count(11), 0);
        CHECK.same("all wait", x.count(9), 8);
    }

    private static void log() {
        TopWheel x = new TopWheel();
        CHECK.same("log(0, 0) without", x.log(0, 0), -2);
        CHECK.element("log(0, 4) without", () -> x.log(0, 4));
        CHECK.element("log(0, -1)", () -> x.log(0, -1));
        CHECK.fair(x, "reach 1;fare 2;rider weight 1 purse 99 party 0 in 5");
        x.stops(59);
        CHECK.same("59 rows", x.count(13), 59);
        CHECK.same("the oldest", x.log(58, 0), 0);
        CHECK.same("it paid", x.log(58, 3), 2);
        CHECK.same("log(59, 0)", x.log(59, 0), -2);
        x.stops(4);
        CHECK.same("60 rows", x.count(13), 60);
        CHECK.same("the latest", x.log(0, 0), 62);
        CHECK.same("its cradle", x.log(0, 1), 63 % 8);
        CHECK.same("the oldest then", x.log(59, 0), 3);
        CHECK.same("one that governed", x.log(1, 2), -1);
        CHECK.same("by rider 0", x.log(2, 2), 0);
        CHECK.same("by none", x.log(3, 2), -1);
        CHECK.same("log(60, 0)", x.log(60, 0), -2);
        CHECK.same("log(-1, 0)", x.log(-1, 0), -2);
        CHECK.same("log(least, 3)", x.log(Integer.MIN_VALUE, 3), -2);
        CHECK.element("log(0, 4)", () -> x.log(0, 4));
    }

    private static void led() {
        TopWheel x = new TopWheel();
        CHECK.fair(x, "reach 1;fare 0;rider weight 1 purse 99 party 0 in 5;rider weight 1 purse 99 party 0 in 5;"
                + "rider weight 1 purse 99 party 0 in 6");
        CHECK.index("led(3, true)", () -> x.led(3, true));
        CHECK.index("led(-1, false)", () -> x.led(-1, false));
        CHECK.same("led without rows", x.led(0, false), 0);
        CHECK.same("led without rows: stop", x.led(0, true), -1);
        x.stops(60);
        x.stops(4);
        CHECK.same("every eighth stop of 60", x.led(0, false), 8);
        CHECK.same("the latest", x.led(0, true), 60);
        CHECK.same("the second in a cradle never governs", x.led(1, false), 0);
        CHECK.same("nor has a stop", x.led(1, true), -1);
        CHECK.same("rider 2", x.led(2, false) * 100 + x.led(2, true), 861);
    }

    private static void trials() {
        TopWheel x = new TopWheel();
        CHECK.argument("trial(-1, true)", () -> x.trial(-1, true));
        CHECK.argument("trial(61, false)", () -> x.trial(61, false));
        CHECK.argument("span(-1, true)", () -> x.span(-1, true));
        CHECK.argument("span(61, false)", () -> x.span(61, false));
        CHECK.fair(x, "wind 60;fare 9;chest 50;rider weight 1 purse 60 party 0 in 1;rider weight 1 purse 70 party 0 in 4;"
                + "rider weight 1 purse 80 party 1;rider weight 1 purse 90 party 2;bolts 0 1;bolts 1 1;bolts 2 1");
        CHECK.law(x, "go 1 if rich;more 3 if party<1");
        int least = 9999;
        int greatest = 0;
        for (int n = 0; n <= 60; n += 12) {
            least = 9999;
            greatest = 0;
            int before = x.seed(1);
            for (int seed = 1; seed <= 6; seed++) {
                x.seed(seed);
                int chest = x.trial(n, false);
                int waiting = x.trial(n, true);
                x.image();
                if (n > 0) {
                    x.stops(n);
                }
                CHECK.same("chest of a trial of " + n, chest, x.count(6));
                CHECK.same("waiting of a trial of " + n, waiting, x.count(9));
                x.back();
                least = Math.min(least, chest);
                greatest = Math.max(greatest, chest);
            }
            x.seed(before);
            CHECK.same("the least span of " + n, x.span(n, false), least);
            CHECK.same("the greatest span of " + n, x.span(n, true), greatest);
            CHECK.same("nothing stays", x.seed(before), before);
        }
        CHECK.same("they are unlike", least < greatest, true);
        CHECK.same("no stop was made", x.count(3) + x.count(13) + x.count(14), 0);
    }

    private static void manyStops() {
        TopWheel x = new TopWheel();
        for (int i = 0; i < 166; i++) {
            x.stops(60);
        }
        CHECK.same("9960 stops", x.count(3), 9960);
        x.stops(39);
        CHECK.same("9999 stops", x.count(3), 9999);
        x.stops(2);
        CHECK.same("9999 at most", x.count(3), 9999);
        CHECK.same("in the log too", x.log(0, 0), 9999);
        CHECK.same("ahead of it", x.log(2, 0), 9998);
    }
}
