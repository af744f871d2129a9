import java.util.function.Consumer;

/** Boundary cases of the promises: refused calls, empty and full ones, the words behind each signature. */
final class PromiseBounds extends Bounds {
    PromiseBounds(Check check, Document document) {
        super(check, document);
    }

    @Override
    void run() {
        newObject();
        feed();
        feedTooMuch();
        end();
        endRefused();
        fair();
        law();
        fault();
        rider();
        cradle();
        party();
        governor();
        farther();
        board();
        move();
        off();
        bolt();
        dole();
        fare();
        bribe();
        stops();
        seed();
        undo();
        image();
        back();
        count();
    }

    private void newObject() {
        says(1, "A wheel without RIDERS.");
        TopWheel x = new TopWheel();
        check.same("no riders", x.count(0), 0);
        check.index("rider(0, 0)", () -> x.rider(0, 0));
        check.same("nobody governs", x.governor(), NONE);
        check.same("nobody waits", x.count(9), 0);
        check.same("no tape", x.end(1), false);
        x.stops(60);
        check.same("it goes without riders", x.count(6) + x.count(9) + x.party(0, 0), 0);
        TopWheel other = new TopWheel();
        check.same("another is by itself", other.count(3), 0);
    }

    private void feed() {
        says(2, "Twenty bytes come behind the TAPE, of each number the highest first: how many it has;");
        TopWheel x = new TopWheel();
        check.same("twenty", x.feed(0x66617265, 0x20373b74, 0x6f702033, 0x3b666172, 0x65203132), 20);
        check.same("twenty more", x.feed(0x3b77696e, 0x64203939, 0x3b726561, 0x63682038, 0x20202020), 40);
        check.same("fare 7;top 3;fare 12;wind 99;reach 8", x.fair(), 1);
        check.same("fare", x.count(5), 12);
        check.same("top", x.count(4), 3);
        check.same("wind", x.count(8), 99);
        check.same("reach", x.count(7), 8);
        for (int i = 0; i < 20; i++) {
            int[] bytes = new int[20];
            java.util.Arrays.fill(bytes, ' ');
            bytes[i] = 255;
            Check.put(x, bytes);
            check.argument("byte " + i, x::law);
            check.same("it came as byte " + i, x.fault(), i);
        }
    }

    private void feedTooMuch() {
        says(2, "NONE, and none come, if it would have more than 400.");
        TopWheel x = new TopWheel();
        for (int i = 1; i <= 20; i++) {
            check.same("feed " + i, x.feed(0x20202020, 0x20202020, 0x20202020, 0x20202020, 0x20202020), 20 * i);
        }
        check.same("421 are too many", x.feed(0, 0, 0, 0, 0), NONE);
        check.same("400 still", x.end(400), true);
        check.same("none came", x.end(401), false);
        check.same("381", x.end(381), true);
        check.same("401 are too many", x.feed(0, 0, 0, 0, 0), NONE);
        check.same("none came", x.end(382), false);
        check.same("380", x.end(380), true);
        check.same("400 are not", x.feed(0x20202020, 0x20202020, 0x20202020, 0x20202020, 0x20202020), 400);
        check.same("nothing but blanks", x.law(), 0);
    }

    private void end() {
        says(3, "The TAPE has its first n bytes alone: true;");
        TopWheel x = new TopWheel();
        check.same("0 of none", x.end(0), true);
        x.feed(0x66617265, 0x20373820, 0, 0, 0);
        check.same("all", x.end(20), true);
        check.same("six", x.end(6), true);
        check.same("fewer are left", x.end(7), false);
        check.same("fare 7", x.fair(), 1);
        check.same("fare 7, not 78", x.count(5), 7);
        x.feed(0x66617265, 0x20372020, 0x20202020, 0x20202020, 0x20202020);
        check.same("the same cut ahead of its number", x.end(5), true);
        check.argument("what was cut is not read", x::fair);
        check.same("more must come", x.fault(), 5);
        x.feed(0x66617265, 0x20373820, 0, 0, 0);
        check.same("none", x.end(0), true);
        check.same("none are left", x.end(1), false);
        check.same("a feed begins anew", x.feed(0, 0, 0, 0, 0), 20);
        x.end(0);
        x.feed(0x051e011e, 0x1e1e1e1e, 0x1e1e1e1e, 0x1e1e1e1e, 0x1e1e1e1e);
        x.end(1);
        check.same("moves of the first alone", x.moves(false), 30);
        x.feed(0x05060101, 0x01010101, 0x01010101, 0x01010101, 0x01010101);
        x.end(2);
        check.same("moves of the first two alone", x.moves(true), 2);
        x.feed(0x01010400, 0x04000400, 0x04000400, 0x04000400, 0x04000400);
        x.end(2);
        check.same("a fire of the first two alone", x.fire(), 3);
    }

    private void endRefused() {
        says(3, "false, and nothing happens, if it has fewer, or n is below 0.");
        TopWheel x = new TopWheel();
        check.same("1 of none", x.end(1), false);
        x.feed(0x66617265, 0x20372020, 0x20202020, 0x20202020, 0x20202020);
        for (int n : new int[] {21, 400, 401, MOST, -1, LEAST}) {
            check.same("end(" + n + ")", x.end(n), false);
        }
        check.same("all are there", x.feed(0x20202020, 0x20202020, 0x20202020, 0x20202020, 0x20202020), 40);
        check.same("and right", x.fair(), 1);
    }

    private void fair() {
        says(4, "Uses the TAPE up: a text of THE FAIR: how many there are.");
        TopWheel x = new TopWheel();
        check.same("without a tape: a text without lines", x.fair(), 1);
        Check.put(x, "fare 9");
        check.same("the second", x.fair(), 2);
        check.same("the tape is used up", x.feed(0, 0, 0, 0, 0), 20);
        says(4, "IllegalArgumentException: it is wrong;");
        check.wrongFair(x, "fare 9 9", 7);
        check.same("the tape is used up", x.feed(0, 0, 0, 0, 0), 20);
        check.same("two still", x.count(1), 2);
        says(4, "UnsupportedOperationException: there are 12.");
        for (int i = 3; i <= 12; i++) {
            Check.put(x, "");
            check.same("the next", x.fair(), i);
        }
        Check.put(x, "fare 8");
        check.thrown("a 13th", UnsupportedOperationException.class, x::fair);
        check.same("the tape is used up", x.feed(0, 0, 0, 0, 0), 20);
        check.same("the fare stays", x.count(5), 9);
        x.end(0);
        check.thrown("an empty 13th", UnsupportedOperationException.class, x::fair);
        check.wrongFair(x, "wrong", 0);
        check.same("a law may be told still", x.law(), 0);
    }

    private void law() {
        says(5, "Uses the TAPE up: THE LAW: how many LINES.");
        TopWheel x = new TopWheel();
        check.same("without a tape", x.law(), 0);
        Check.put(x, "go 1;more 1;less 1");
        check.same("three", x.law(), 3);
        check.same("the tape is used up", x.feed(0, 0, 0, 0, 0), 20);
        says(5, "IllegalArgumentException: the text is wrong.");
        check.wrongLaw(x, "go 1;more 1;less", 16);
        check.same("the tape is used up", x.feed(0, 0, 0, 0, 0), 20);
        check.same("the law stays", x.count(2), 3);
    }

    private void fault() {
        says(6, "The first wrong byte of the latest text that was read; NONE without one, and ahead of any.");
        TopWheel x = new TopWheel();
        check.same("ahead of any", x.fault(), NONE);
        check.wrongFair(x, ",", 0);
        check.wrongFair(x, "fare", 4);
        check.wrongLaw(x, "go 1,", 4);
        check.same("asked again", x.fault(), 4);
        check.fair(x, "fare 1");
        check.same("without one", x.fault(), NONE);
        check.wrongLaw(x, "go", 2);
        check.law(x, "go 1");
        check.same("without one", x.fault(), NONE);
        check.wrongFair(x, " ".repeat(399) + "x", 399);
        Check.put(x, 0);
        check.argument("moves are no text", () -> x.moves(false));
        check.same("the latest text", x.fault(), 399);
    }

    private void rider() {
        says(7, "Of a RIDER what 0 the CRADLE (NONE: WAITING), 1 WEIGHT, 2 PURSE, 3 PARTY, 4 what it OWES now (0, if it WAITS), "
                + "5 HEIGHT (NONE, if it WAITS), 6 LEVEL, as bits, 7 WAITS (NONE).");
        TopWheel x = wheel("fare 9;" + rider(9, 999, 3, 7) + ";" + rider(1, 0, 0) + ";" + rider(2, 50, 1, 1));
        int[][] due = {{7, 9, 999, 3, 9, 3, 4, NONE}, {NONE, 1, 0, 0, 0, NONE, 0, 0}, {1, 2, 50, 1, 9, 3, 1, NONE}};
        for (int r = 0; r < due.length; r++) {
            for (int what = 0; what < 8; what++) {
                check.same("rider(" + r + ", " + what + ")", x.rider(r, what), due[r][what]);
            }
        }
        says(7, "NoSuchElementException: another what.");
        for (int what : new int[] {-1, 8, MOST, LEAST}) {
            check.element("rider(0, " + what + ")", () -> x.rider(0, what));
        }
    }

    private void cradle() {
        says(8, "Of a CRADLE what 0 BOLTS, 1 RIDERS in it, as bits, 2 PLACES behind the top, 3 HEIGHT, 4 WEIGHT in it, 5 COST.");
        TopWheel x = wheel("top 1;bolts 0 0;" + lines(rider(1, 0, 0), 4), rider(8, 1, 0, 7) + ";" + lines(rider(2, 1, 0, 6), 2) + ";"
                + rider(9, 1, 0, 7));
        int[][] due = {{0, 0, 7, 3, 0, 70}, {5, 0, 0, 4, 0, 0}, {5, 0, 1, 3, 0, 10}, {5, 0, 2, 2, 0, 20}, {5, 0, 3, 1, 0, 30},
            {5, 0, 4, 0, 0, 40}, {5, 32 + 64, 5, 1, 4, 50}, {5, 16 + 128, 6, 2, 17, 60}};
        for (int c = 0; c < due.length; c++) {
            for (int what = 0; what < 6; what++) {
                check.same("cradle(" + c + ", " + what + ")", x.cradle(c, what), due[c][what]);
            }
        }
        says(8, "NoSuchElementException: another what.");
        for (int what : new int[] {-1, 6, MOST, LEAST}) {
            check.element("cradle(0, " + what + ")", () -> x.cradle(0, what));
        }
    }

    private void party() {
        says(9, "Of a PARTY what 0 TERMS, 1 its RIDERS, as bits, 2 WEIGHT of those in CRADLES, 3 POWER.");
        TopWheel x = wheel("reach 1;fare 0;" + rider(4, 9, 3, 1) + ";" + rider(5, 0, 3) + ";" + rider(3, 9, 0, 2) + ";" + rider(9, 0, 1));
        x.stops(1);
        int[][] due = {{0, 4, 3, 0}, {0, 8, 0, 0}, {0, 0, 0, 0}, {1, 3, 4, 8}};
        for (int p = 0; p < due.length; p++) {
            for (int what = 0; what < 4; what++) {
                check.same("party(" + p + ", " + what + ")", x.party(p, what), due[p][what]);
            }
        }
        says(9, "NoSuchElementException: another what.");
        for (int what : new int[] {-1, 4, MOST, LEAST}) {
            check.element("party(0, " + what + ")", () -> x.party(0, what));
        }
    }

    private void governor() {
        says(10, "GOVERNOR; NONE.");
        TopWheel x = wheel(rider(1, 1, 0, 1) + ";" + rider(1, 1, 0) + ";chest 10");
        check.same("none", x.governor(), NONE);
        x.bribe(1);
        check.same("rider 0", x.governor(), 0);
        x.off(0);
        check.same("none, who wait do not govern", x.governor(), NONE);
    }

    private void farther() {
        says(11, "FARTHER.");
        TopWheel x = wheel(rider(1, 1, 0, 0));
        check.same("without a law", x.farther(), 0);
        check.law(x, "go 7;go 8 if weight<2;go 9 if weight>1");
        check.same("of the governor", x.farther(), 15);
        check.law(x, "");
        check.same("by a law without lines", x.farther(), 0);
    }

    private void board() {
        says(12, "A WAITING one gets in: how many are in that CRADLE then.");
        TopWheel x = wheel("bolts 7 0;bolts 6 1;" + lines(rider(1, 0, 0), 4));
        check.same("one", x.board(2, 6), 1);
        check.same("two", x.board(0, 6), 2);
        check.same("the row", x.rider(1, 7) * 10 + x.rider(3, 7), 1);
        says(12, "IllegalStateException: it does not WAIT, or the CRADLE is CLOSED, or has no room.");
        check.state("it does not wait", () -> x.board(2, 5));
        check.state("it does not wait, its own one", () -> x.board(2, 6));
        check.state("closed", () -> x.board(1, 7));
        check.state("no room", () -> x.board(1, 6));
        x.bolt(7);
        check.same("not closed any more", x.board(1, 7), 1);
        x.off(0);
        check.same("room again", x.board(3, 6), 2);
    }

    private void move() {
        says(13, "One moves over, up (to the next greater number, 7 to 0) or down: the CRADLE then.");
        TopWheel x = wheel(rider(1, 1, 0, 6) + ";" + rider(1, 1, 0) + ";bolts 3 0");
        check.same("up", x.move(0, true), 7);
        check.same("up from 7", x.move(0, true), 0);
        check.same("up from 0", x.move(0, true), 1);
        check.same("down", x.move(0, false), 0);
        check.same("down from 0", x.move(0, false), 7);
        check.same("down from 7", x.move(0, false), 6);
        says(13, "IllegalStateException: it WAITS, or that CRADLE is CLOSED, or has no room.");
        check.state("it waits", () -> x.move(1, true));
        check.state("it waits, down", () -> x.move(1, false));
        check.fair(x, "bolts 5 0;bolts 7 0");
        check.state("closed below", () -> x.move(0, false));
        check.state("closed above", () -> x.move(0, true));
        check.fair(x, "bolts 5 1;bolts 7 1;" + lines(rider(1, 1, 0, 5), 2) + ";" + rider(1, 1, 0, 7));
        check.state("no room below", () -> x.move(0, false));
        check.same("room for a second above", x.move(0, true), 7);
        check.fair(x, "bolts 7 0");
        check.same("out of a closed one", x.move(0, true), 0);
    }

    private void off() {
        says(14, "One gets off: how many WAIT then.");
        TopWheel x = wheel(lines(rider(1, 0, 0, 1), 2) + ";" + rider(1, 5, 0));
        check.same("two", x.off(1), 2);
        check.same("three", x.off(0), 3);
        check.same("the last one", x.rider(0, 7), 2);
        says(14, "IllegalStateException: it WAITS.");
        check.state("it got off", () -> x.off(0));
        check.state("it never got in", () -> x.off(2));
    }

    private void bolt() {
        says(15, "A BOLT is set: how many then.");
        TopWheel x = wheel("bolts 7 0;bolts 0 8");
        check.same("the first", x.bolt(7), 1);
        check.same("it is open", x.count(10), 0);
        check.same("the ninth", x.bolt(0), 9);
        says(15, "IllegalStateException: there are 9.");
        check.state("a tenth", () -> x.bolt(0));
        check.same("9 still", x.cradle(0, 0), 9);
    }

    private void dole() {
        says(16, "Paid out of the CHEST: PURSE then (999 at most).");
        TopWheel x = wheel("chest 30;" + rider(1, 998, 0, 0) + ";" + rider(1, 0, 0));
        check.same("just 999", x.dole(0, 1), 999);
        check.same("999 at most", x.dole(0, 5), 999);
        check.same("it was paid out", x.count(6), 24);
        check.same("to one who waits", x.dole(1, 4), 4);
        says(16, "IllegalArgumentException: n is none (1 to the CHEST).");
        check.argument("0", () -> x.dole(1, 0));
        check.argument("-1", () -> x.dole(1, -1));
        check.argument("21", () -> x.dole(1, 21));
        check.argument("most", () -> x.dole(1, MOST));
        check.same("20, all of it", x.dole(1, 20), 24);
        check.argument("1 of an empty chest", () -> x.dole(1, 1));
    }

    private void fare() {
        says(17, "The FARE is told: what it was.");
        TopWheel x = new TopWheel();
        check.same("5 at first", x.fare(0), 5);
        check.same("0", x.fare(99), 0);
        check.same("99", x.fare(99), 99);
        says(17, "IllegalArgumentException: it is none.");
        for (int none : new int[] {-1, 100, MOST, LEAST}) {
            check.argument("fare(" + none + ")", () -> x.fare(none));
        }
        check.same("99 still", x.count(5), 99);
    }

    private void bribe() {
        says(18, "A bribe: the CRADLE ON TOP then.");
        TopWheel x = wheel("chest 90;top 5;" + rider(1, 1, 0, 1) + ";" + rider(1, 9, 0, 0));
        check.same("round", x.bribe(7), 4);
        check.same("one", x.bribe(1), 5);
        check.same("80 were paid", x.count(6), 10);
        check.same("nobody paid a fare at the bottom", x.count(11), 10);
        says(18, "IllegalArgumentException: n is none (1 to 7);");
        for (int none : new int[] {0, 8, -1, MOST, LEAST}) {
            check.argument("bribe(" + none + ")", () -> x.bribe(none));
        }
        says(18, "IllegalStateException: the CHEST has less.");
        check.state("20 of 10", () -> x.bribe(2));
        check.same("10 of 10", x.bribe(1), 6);
        check.state("10 of 0", () -> x.bribe(1));
    }

    private void stops() {
        says(19, "So many STOPS more (1 to 60): what was paid in these.");
        TopWheel x = wheel("reach 1;fare 2;" + rider(1, 99, 0, 5) + ";" + rider(1, 1, 0, 6));
        check.same("1", x.stops(1), 2);
        check.same("1 of all it has", x.stops(1), 1);
        check.same("none", x.stops(1), 0);
        check.same("60", x.stops(60), 2 * 7);
        check.same("63", x.count(3), 63);
        says(19, "IllegalArgumentException: they are none.");
        for (int none : new int[] {0, -1, 61, MOST, LEAST}) {
            check.argument("stops(" + none + ")", () -> x.stops(none));
        }
        check.same("63 still", x.count(3), 63);
    }

    private void seed() {
        says(47, "SEED: what it was.");
        TopWheel x = new TopWheel();
        check.same("1 at first", x.seed(0), 1);
        check.same("0", x.seed(MOST), 0);
        check.same("most", x.seed(LEAST), MOST);
        check.same("least", x.seed(-1), LEAST);
        check.same("-1", x.seed(1), -1);
    }

    private void undo() {
        says(48, "UNDONE: whether there was one.");
        TopWheel x = new TopWheel();
        check.same("none", x.undo(), false);
        x.bolt(0);
        check.same("one", x.undo(), true);
        check.same("none any more", x.undo(), false);
    }

    private void image() {
        says(49, "THE IMAGE is kept.");
        TopWheel x = new TopWheel();
        x.image();
        x.fare(9);
        check.same("gone back", x.back(), true);
        check.same("as it was kept", x.count(5), 5);
    }

    private void back() {
        says(50, "One goes back to THE IMAGE: true;");
        TopWheel x = new TopWheel();
        x.image();
        check.same("true", x.back(), true);
        check.same("true again", x.back(), true);
        says(50, "false, and nothing happens, if none was kept.");
        harmless("back() without an image", () -> {
            TopWheel y = wheel("chest 50;" + rider(1, 9, 0, 0) + ";" + rider(1, 9, 0));
            y.stops(5);
            y.fare(7);
            return y;
        }, y -> check.same("false", y.back(), false));
    }

    private void count() {
        says(51, "0 RIDERS, 1 texts of THE FAIR, 2 LINES of THE LAW (NONE without one), 3 STOP, 4 the CRADLE ON TOP, 5 FARE, 6 CHEST, "
                + "7 REACH, 8 WIND, 9 how many WAIT, 10 CLOSED CRADLES, as bits, 11 PURSES of all together, 12 BOLTS of all together, "
                + "13 rows of THE LOG, 14 acts that can be UNDONE.");
        counts("at first", x -> { }, 0, 0, NONE, 0, 0, 5, 0, 4, 0, 0, 0, 0, 40, 0, 0);
        counts("told", x -> {
            check.fair(x, "chest 999;reach 1;wind 0;top 7;bolts 0 0;bolts 7 0;bolts 3 9;" + rider(1, 999, 0, 4) + ";" + rider(1, 0, 0));
            check.law(x, "go 0;go 0");
            x.stops(60);
            x.stops(4);
            x.fare(99);
        }, 2, 1, 2, 64, 7, 99, 999 + 40, 1, 0, 1, 129, 959, 34, 60, 3);
        counts("of eight", x -> check.fair(x, lines(rider(1, 999, 0, 0), 2) + ";" + lines(rider(1, 999, 0, 1), 2) + ";"
                + lines(rider(1, 999, 0), 4)), 8, 1, NONE, 0, 0, 5, 0, 4, 0, 4, 0, 7992, 40, 0, 0);
        says(51, "NONE for another what.");
        for (int what : new int[] {-1, 15, MOST, LEAST}) {
            check.same("count(" + what + ")", new TopWheel().count(what), NONE);
        }
    }

    private void counts(String when, Consumer<TopWheel> told, int... due) {
        TopWheel x = new TopWheel();
        told.accept(x);
        for (int what = 0; what < due.length; what++) {
            check.same("count(" + what + ") " + when, x.count(what), due[what]);
        }
    }
}
