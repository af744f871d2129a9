/** Boundary cases of the section Terms: the wheel and what it holds. */
final class WheelBounds extends Bounds {
    WheelBounds(Check check, Document document) {
        super(check, document);
    }

    @Override
    void run() {
        cradles();
        top();
        places();
        heights();
        bolts();
        riders();
        waiting();
        weights();
        purses();
        parties();
        seats();
        fares();
        chests();
        reaches();
        winds();
        stops();
        terms();
    }

    private void cradles() {
        says("THE WHEEL: 8 CRADLES, numbered 0 to 7 round.");
        TopWheel x = wheel(rider(1, 1, 0, 7));
        check.same("cradle(0, 0)", x.cradle(0, 0), 5);
        check.same("cradle(7, 0)", x.cradle(7, 0), 5);
        check.index("cradle(8, 0)", () -> x.cradle(8, 0));
        check.index("cradle(-1, 0)", () -> x.cradle(-1, 0));
        check.index("cradle(most, 0)", () -> x.cradle(MOST, 0));
        check.index("cradle(least, 0)", () -> x.cradle(LEAST, 0));
        check.same("from 7 up", x.move(0, true), 0);
        check.same("from 0 down", x.move(0, false), 7);
    }

    private void top() {
        says("ON TOP: one of them (0 at first)");
        TopWheel x = new TopWheel();
        check.same("count(4)", x.count(4), 0);
        check.same("cradle(0, 2)", x.cradle(0, 2), 0);
    }

    private void places() {
        says("a CRADLE is so many PLACES behind the top as one counts on from the one ON TOP to it "
                + "(0 to 7: its number less that of the one ON TOP, modulo 8)");
        for (int top = 0; top < 8; top++) {
            TopWheel x = wheel("top " + top);
            for (int on = 0; on < 8; on++) {
                check.same("top " + top + ", " + on + " on", x.cradle((top + on) % 8, 2), on);
            }
        }
    }

    private void heights() {
        says("HEIGHT: 4 less the PLACES to the top either way round (4 on top, 0 at the bottom).");
        int[] due = {4, 3, 2, 1, 0, 1, 2, 3};
        for (int top = 0; top < 8; top++) {
            TopWheel x = wheel("top " + top, rider(1, 1, 0, top), rider(1, 1, 0, (top + 4) % 8));
            for (int on = 0; on < 8; on++) {
                check.same("height, top " + top + ", " + on + " on", x.cradle((top + on) % 8, 3), due[on]);
            }
            check.same("who is on top", x.rider(0, 5), 4);
            check.same("who is at the bottom", x.rider(1, 5), 0);
        }
    }

    private void bolts() {
        says("BOLTS of a CRADLE 0 to 9 (5 at first); with 0 it is CLOSED.");
        TopWheel x = new TopWheel();
        for (int c = 0; c < 8; c++) {
            check.same("bolts at first of " + c, x.cradle(c, 0), 5);
        }
        check.same("none is closed at first", x.count(10), 0);
        check.fair(x, "bolts 0 0;bolts 7 1;bolts 3 9");
        check.same("0", x.cradle(0, 0), 0);
        check.same("1", x.cradle(7, 0), 1);
        check.same("9", x.cradle(3, 0), 9);
        check.same("with 0 it is closed, with 1 it is not", x.count(10), 1);
        check.same("there is room where it is not closed", x.room(), 254);
        check.wrongFair(x, "bolts 3 10", 8);
    }

    private void riders() {
        says("RIDERS (at most 8, numbered from 0 on)");
        TopWheel x = new TopWheel();
        check.same("none at first", x.count(0), 0);
        check.index("rider(0, 0) at first", () -> x.rider(0, 0));
        for (int r = 0; r < 8; r++) {
            check.fair(x, rider(r + 1, 100 + r, 0));
            check.same("how many", x.count(0), r + 1);
            check.same("the next number", x.rider(r, 2), 100 + r);
        }
        check.index("rider(8, 0)", () -> x.rider(8, 0));
        check.index("rider(-1, 0)", () -> x.rider(-1, 0));
        check.wrongFair(x, rider(1, 1, 0), 0);
        check.same("8 still", x.count(0), 8);
    }

    private void waiting() {
        says("a CRADLE, or WAITING (in a row)");
        TopWheel x = wheel(rider(1, 1, 0, 7) + ";" + rider(1, 1, 0) + ";" + rider(1, 1, 0, 0) + ";" + rider(1, 1, 0));
        int[] cradles = {7, NONE, 0, NONE};
        int[] waits = {NONE, 0, NONE, 1};
        for (int r = 0; r < 4; r++) {
            check.same("cradle of " + r, x.rider(r, 0), cradles[r]);
            check.same("in the row " + r, x.rider(r, 7), waits[r]);
        }
    }

    private void weights() {
        says("WEIGHT 1 to 9");
        TopWheel x = wheel(rider(1, 0, 0) + ";" + rider(9, 0, 0));
        check.same("1", x.rider(0, 1), 1);
        check.same("9", x.rider(1, 1), 9);
        check.wrongFair(x, rider(0, 0, 0), 13);
        check.wrongFair(x, rider(10, 0, 0), 13);
    }

    private void purses() {
        says("PURSE 0 to 999");
        TopWheel x = wheel(rider(1, 0, 0) + ";" + rider(1, 999, 0));
        check.same("0", x.rider(0, 2), 0);
        check.same("999", x.rider(1, 2), 999);
        check.wrongFair(x, rider(1, 1000, 0), 21);
    }

    private void parties() {
        says("PARTY 0 to 3");
        TopWheel x = wheel(rider(1, 0, 0) + ";" + rider(1, 0, 3));
        check.same("0", x.rider(0, 3), 0);
        check.same("3", x.rider(1, 3), 3);
        check.wrongFair(x, rider(1, 0, 4), 29);
    }

    private void seats() {
        says("In a CRADLE there are 2 at most.");
        String two = lines(rider(1, 9, 0, 3), 2);
        TopWheel x = wheel(two + ";" + rider(1, 9, 0) + ";" + rider(1, 9, 0, 2) + ";" + rider(1, 9, 0, 4) + ";reach 1;top 6");
        check.same("two", x.cradle(3, 1), 3);
        check.state("a third gets in", () -> x.board(2, 3));
        check.state("a third moves up", () -> x.move(3, true));
        check.state("a third moves down", () -> x.move(4, false));
        check.wrongFair(x, rider(1, 9, 0, 3), 34);
        x.stops(1);
        check.same("a third does not get in at the bottom", x.cradle(3, 1), 3);
        check.same("it waits on", x.rider(2, 7), 0);
        x.off(0);
        check.same("one of two is off: a second gets in", x.board(2, 3), 2);
    }

    private void fares() {
        says("FARE 0 to 99 (5 at first).");
        TopWheel x = new TopWheel();
        check.same("5 at first", x.count(5), 5);
        check.same("99", x.fare(99), 5);
        check.same("0", x.fare(0), 99);
        check.argument("100", () -> x.fare(100));
        check.argument("-1", () -> x.fare(-1));
        check.fair(x, "fare 99");
        check.same("99 by a text", x.count(5), 99);
        check.fair(x, "fare 0");
        check.same("0 by a text", x.count(5), 0);
        check.wrongFair(x, "fare 100", 5);
    }

    /** More than 8991 cannot come together: eight purses of 999 and a chest of 999. */
    private void chests() {
        says("CHEST 0 to 9999 (0 at first).");
        TopWheel x = new TopWheel();
        check.same("0 at first", x.count(6), 0);
        check.fair(x, "reach 1;fare 99;chest 999;" + lines(rider(1, 999, 0, 0), 2) + ";" + lines(rider(1, 999, 0, 1), 2));
        check.fair(x, lines(rider(1, 999, 0, 2), 2) + ";" + lines(rider(1, 999, 0, 3), 2));
        check.same("all is paid", x.stops(60) + x.stops(60), 8 * 999);
        check.same("the most that can be", x.count(6), 8991);
        check.same("paid out again", x.dole(0, 8991), 999);
        check.same("0", x.count(6), 0);
    }

    private void reaches() {
        says("REACH 1 to 8 (4 at first): how far a draw takes it.");
        TopWheel x = new TopWheel();
        check.same("4 at first", x.count(7), 4);
        check.wrongFair(x, "reach 0", 6);
        check.wrongFair(x, "reach 9", 6);
        for (int reach = 1; reach <= 8; reach++) {
            check.fair(x, "top 0;reach " + reach);
            check.same("reach", x.count(7), reach);
            check.same("the shortest", x.ahead(0, 1, 0), 1);
            check.same("the farthest", x.ahead(reach - 1, 1, 0), reach % 8);
        }
    }

    private void winds() {
        says("WIND 0 to 100 (0 at first).");
        TopWheel x = new TopWheel();
        check.same("0 at first", x.count(8), 0);
        check.fair(x, "wind 100");
        check.same("100", x.count(8), 100);
        check.wrongFair(x, "wind 101", 5);
        check.fair(x, "wind 0");
        check.same("0", x.count(8), 0);
    }

    private void stops() {
        says("STOP: how many there were (0 at first).");
        TopWheel x = new TopWheel();
        check.same("0 at first", x.count(3), 0);
        x.stops(1);
        check.same("1", x.count(3), 1);
        x.stops(60);
        check.same("61", x.count(3), 61);
        x.trial(60, false);
        x.ahead(0, 100, 0);
        check.same("those that are only tried are none", x.count(3), 61);
    }

    private void terms() {
        says("TERMS of a PARTY: how often one of it governed (0 at first).");
        TopWheel x = wheel("reach 1;fare 0;" + rider(1, 9, 0, 1) + ";" + rider(1, 9, 3, 2) + ";" + rider(1, 9, 3, 4));
        for (int p = 0; p < 4; p++) {
            check.same("0 at first", x.party(p, 0), 0);
        }
        x.stops(8);
        int[] due = {1, 0, 0, 2};
        for (int p = 0; p < 4; p++) {
            check.same("once round: terms of " + p, x.party(p, 0), due[p]);
        }
    }
}
