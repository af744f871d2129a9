import java.util.Arrays;
import java.util.function.Function;
import java.util.function.Supplier;

/** Boundary cases of the promises that only answer: what they refuse, and that they change nothing. */
final class AnswerBounds extends Bounds {
    AnswerBounds(Check check, Document document) {
        super(check, document);
    }

    @Override
    void run() {
        odds();
        leaning();
        parties();
        clues();
        ahead();
        looks();
        trials();
        led();
        log();
        changeNothing();
        fullWheel();
    }

    private void odds() {
        TopWheel x = wheel(rider(1, 1, 0, 1));
        says(20, "ODDS. IllegalArgumentException: N is none.");
        check.same("by 1", x.odds(1, 1), 2500);
        check.same("by 5", x.odds(1, 5), 976);
        says(21, "BEST; NONE. IllegalArgumentException: N is none.");
        check.same("by 1", x.best(1), 1);
        check.same("by 5", x.best(5), 4);
        check.same("none", wheel(onlyOpen(0), "bolts 0 0").best(1), NONE);
        says(22, "RULES. IllegalArgumentException: N is none.");
        check.same("by 1", x.rules(0, 1), 2500);
        check.same("by 5", x.rules(0, 5), 976);
        for (int none : new int[] {0, 6, -1, MOST, LEAST}) {
            says(20, "ODDS. IllegalArgumentException: N is none.");
            check.argument("odds(0, " + none + ")", () -> x.odds(0, none));
            says(21, "BEST; NONE. IllegalArgumentException: N is none.");
            check.argument("best(" + none + ")", () -> x.best(none));
            says(22, "RULES. IllegalArgumentException: N is none.");
            check.argument("rules(0, " + none + ")", () -> x.rules(0, none));
        }
    }

    private void leaning() {
        TopWheel x = wheel(rider(3, 1, 0, 7) + ";" + rider(2, 1, 0));
        says(23, "LEAN.");
        check.same("below 0", x.lean(), -3);
        says(24, "SEAT; NONE.");
        check.same("1 to lean by 1", x.seat(1), 1);
        check.same("none", wheel(onlyOpen(0) + ";" + rider(1, 1, 0) + ";bolts 0 0").seat(0), NONE);
        says(25, "SHIFTS, as bits.");
        check.same("rider 0", x.shifts(), 1);
    }

    private void parties() {
        TopWheel x = wheel("chest 10;" + rider(3, 90, 2, 7) + ";" + rider(2, 90, 3, 1) + ";" + rider(2, 90, 1));
        says(26, "MAJORITY, as bits.");
        check.same("party 2", x.majority(), 4);
        says(27, "RESTS, as bits.");
        check.same("both lower", x.rests(2, 3), 8);
        says(27, "IllegalArgumentException: both are one.");
        check.argument("rests(0, 0)", () -> x.rests(0, 0));
        check.argument("rests(3, 3)", () -> x.rests(3, 3));
        says(28, "AFFORDS, as bits.");
        check.same("0 and 1", x.affords(), 3);
        says(29, "REIGN; NONE.");
        check.same("rider 1", x.reign(), 1);
        x.off(1);
        check.same("none", x.reign(), NONE);
    }

    private static int[] many(int size, int value) {
        int[] bytes = new int[size];
        Arrays.fill(bytes, value);
        return bytes;
    }

    private void clues() {
        String moves = "Uses the TAPE up: MOVES (a byte for each STOP, 1 to 30; at most 40): how many pairs (reach false), "
                + "or the least REACH; NONE. IllegalArgumentException: the TAPE is not that (none may be told).";
        clue(30, moves, x -> x.moves(false), 80, 36, many(40, 10), many(41, 10));
        clue(30, moves, x -> x.moves(true), 1, 1, many(40, 10), many(41, 10));
        clue(30, moves, x -> x.moves(true), 1, NONE, many(40, 30), many(1, 31));
        clue(30, moves, x -> x.moves(false), 80, 0, many(40, 30), many(1, 0));
        String watch = "Uses the TAPE up: WATCH (the TAPE likewise); NONE. IllegalArgumentException: the TAPE is not that.";
        clue(31, watch, TopWheel::watch, 8, 5, many(40, 1), many(41, 1));
        clue(31, watch, TopWheel::watch, 8, NONE, many(40, 30), many(1, 31));
        clue(31, watch, TopWheel::watch, 8, NONE, many(40, 17), many(1, 0));
        String fire = "Uses the TAPE up: FIRE (of each two bytes: HEIGHT 0 to 4, 1 or 0; 40 bytes at most), as bits. "
                + "IllegalArgumentException: the TAPE is not that (none may be told).";
        clue(32, fire, TopWheel::fire, 63, 62, many(40, 0), many(42, 0));
        clue(32, fire, TopWheel::fire, 63, 3, many(40, 1), many(39, 1));
        clue(32, fire, TopWheel::fire, 63, 31, new int[] {4, 1}, new int[] {5, 1});
        clue(32, fire, TopWheel::fire, 63, 32, new int[] {4, 0}, new int[] {4, 2});
        clue(32, fire, TopWheel::fire, 63, 32, new int[] {0, 0, 4, 0}, new int[] {0});
        String ask = "Uses the TAPE up: ASK (the TAPE likewise); NONE. IllegalArgumentException: the TAPE is not that.";
        clue(33, ask, TopWheel::ask, 2, 2, many(40, 0), many(42, 0));
        clue(33, ask, TopWheel::ask, 2, 0, many(40, 1), many(41, 1));
        clue(33, ask, TopWheel::ask, 2, NONE, new int[] {4, 0}, new int[] {5, 0});
        clue(33, ask, TopWheel::ask, 2, NONE, new int[] {0, 1}, new int[] {0, 2});
    }

    /** A call that reads the tape: of an empty one, of a right one, of a wrong one; each is used up. */
    private void clue(int promise, String words, Function<TopWheel, Integer> call, int ofNone, int due, int[] right, int[] wrong) {
        says(promise, words);
        TopWheel x = new TopWheel();
        check.same("none told", call.apply(x), ofNone);
        Check.put(x, right);
        check.same("of " + Arrays.toString(right), call.apply(x), due);
        check.same("it is used up", x.end(1), false);
        Check.put(x, wrong);
        check.argument("of " + Arrays.toString(wrong), () -> call.apply(x));
        check.same("it is used up", x.end(1), false);
        check.same("it was no text", x.fault(), NONE);
    }

    private void ahead() {
        TopWheel x = wheel("reach 2;fare 1;chest 5;" + rider(1, 1, 0, 1) + ";" + rider(1, 2, 0) + ";" + rider(1, 0, 0));
        says(34, "BOARDS; NONE. IllegalArgumentException: the draw is none.");
        check.same("by 1", x.boards(1, 1), 1);
        check.same("none", x.boards(2, 0), NONE);
        says(35, "RULED; NONE. IllegalArgumentException: the draw is none.");
        check.same("by 1", x.ruled(0, 0), 1);
        check.same("none", x.ruled(2, 0), NONE);
        says(36, "ROUND; NONE. IllegalArgumentException: the draw is none.");
        check.same("none", x.round(0), NONE);
        says(37, "RUIN, as bits. IllegalArgumentException: the draw or N are none.");
        check.same("now", x.ruin(1, 0), 4);
        says(38, "AHEAD what 0 the CRADLE ON TOP, 1 the GOVERNOR (NONE), 2 CHEST. "
                + "IllegalArgumentException: the draw or N are none; NoSuchElementException: another what.");
        check.same("top", x.ahead(1, 100, 0), 0);
        check.same("governor", x.ahead(0, 1, 1), 0);
        check.same("none", x.ahead(1, 1, 1), NONE);
        check.same("chest", x.ahead(0, 0, 2), 5);
        check.same("chest by 5", x.ahead(0, 5, 2), 6);
        for (int what : new int[] {-1, 3, MOST, LEAST}) {
            check.element("ahead(0, 0, " + what + ")", () -> x.ahead(0, 0, what));
        }
        for (int none : new int[] {-1, 2, MOST, LEAST}) {
            says(34, "BOARDS; NONE. IllegalArgumentException: the draw is none.");
            check.argument("boards(0, " + none + ")", () -> x.boards(0, none));
            says(35, "RULED; NONE. IllegalArgumentException: the draw is none.");
            check.argument("ruled(0, " + none + ")", () -> x.ruled(0, none));
            says(36, "ROUND; NONE. IllegalArgumentException: the draw is none.");
            check.argument("round(" + none + ")", () -> x.round(none));
            says(37, "RUIN, as bits. IllegalArgumentException: the draw or N are none.");
            check.argument("ruin(" + none + ", 0)", () -> x.ruin(none, 0));
            check.argument("ruin(0, " + none + ")", () -> x.ruin(0, none == 2 ? 101 : none));
            says(38, "IllegalArgumentException: the draw or N are none;");
            check.argument("ahead(" + none + ", 0, 0)", () -> x.ahead(none, 0, 0));
            check.argument("ahead(0, " + none + ", 0)", () -> x.ahead(0, none == 2 ? 101 : none, 0));
        }
    }

    private void looks() {
        TopWheel x = wheel("bolts 4 3;" + lines(rider(1, 7, 2, 7), 2) + ";" + rider(1, 8, 2));
        says(39, "RICHEST; NONE.");
        check.same("rider 2", x.richest(), 2);
        check.same("none", new TopWheel().richest(), NONE);
        says(40, "ROOM, as bits.");
        check.same("all but 7", x.room(), 127);
        says(41, "PAIRS.");
        check.same("one", x.pairs(), 1);
        says(42, "WEAKEST.");
        check.same("cradle 4", x.weakest(), 4);
    }

    private void trials() {
        TopWheel x = wheel("reach 1;fare 5;chest 3;" + rider(1, 5, 0, 5) + ";" + rider(1, 0, 0));
        says(43, "TRIAL: CHEST (waiting false), or how many WAIT. IllegalArgumentException: N is none.");
        check.same("chest by 0", x.trial(0, false), 3);
        check.same("who waits by 0", x.trial(0, true), 1);
        check.same("chest by 1", x.trial(1, false), 8);
        check.same("who waits by 1", x.trial(1, true), 2);
        check.same("chest by 60", x.trial(60, false), 8);
        says(44, "SPAN: the least (most false), or the greatest. IllegalArgumentException: N is none.");
        TopWheel y = wheel("reach 8;fare 5;" + rider(1, 50, 0, (drawAfter(6, 1) + 5) % 8));
        check.same("the least", y.span(1, false), 0);
        check.same("the greatest", y.span(1, true), 5);
        check.same("by 60", x.span(60, false), 8);
        for (int none : new int[] {-1, 61, MOST, LEAST}) {
            says(43, "IllegalArgumentException: N is none.");
            check.argument("trial(" + none + ", false)", () -> x.trial(none, false));
            check.argument("trial(" + none + ", true)", () -> x.trial(none, true));
            says(44, "IllegalArgumentException: N is none.");
            check.argument("span(" + none + ", false)", () -> x.span(none, false));
            check.argument("span(" + none + ", true)", () -> x.span(none, true));
        }
    }

    private void led() {
        says(45, "LED: how many rows (stop false), or the STOP; NONE.");
        TopWheel x = wheel("reach 1;fare 0;" + rider(1, 9, 0, 2) + ";" + rider(1, 0, 0));
        check.same("no rows", x.led(0, false), 0);
        check.same("no stop", x.led(0, true), NONE);
        x.stops(10);
        check.same("two rows", x.led(0, false), 2);
        check.same("the latest", x.led(0, true), 9);
        check.same("none", x.led(1, true), NONE);
        check.index("led(2, false)", () -> x.led(2, false));
    }

    private void log() {
        says(46, "THE LOG so many ago (0 the latest) what 0 STOP, 1 the CRADLE, 2 the GOVERNOR, 3 what was paid; - 2 without.");
        TopWheel x = wheel("reach 1;fare 4;" + rider(1, 9, 0, 2) + ";" + rider(1, 9, 0, 5));
        for (int what = 0; what < 4; what++) {
            check.same("without", x.log(0, what), -2);
        }
        x.stops(2);
        int[][] due = {{1, 2, 0, 0}, {0, 1, NONE, 4}, {-2, -2, -2, -2}};
        for (int ago = 0; ago < due.length; ago++) {
            for (int what = 0; what < 4; what++) {
                check.same("log(" + ago + ", " + what + ")", x.log(ago, what), due[ago][what]);
            }
        }
        for (int ago : new int[] {-1, MOST, LEAST}) {
            check.same("log(" + ago + ", 0)", x.log(ago, 0), -2);
        }
        says(46, "NoSuchElementException: another what.");
        for (int what : new int[] {-1, 4, MOST, LEAST}) {
            check.element("log(0, " + what + ")", () -> x.log(0, what));
            check.element("log(9, " + what + ")", () -> x.log(9, what));
        }
    }

    /** What only answers is asked on a wheel in the midst of all, of which a twin is not asked. */
    private void changeNothing() {
        says("(draws, too; nothing stays)");
        Supplier<TopWheel> made = () -> {
            TopWheel x = wheel("chest 50;wind 70;fare 7;" + rider(1, 20, 0, 4) + ";" + rider(2, 60, 1, 0) + ";" + rider(3, 40, 2) + ";"
                    + rider(4, 0, 3) + ";bolts 7 1;bolts 6 9");
            check.law(x, "go 1 if rich;more 2");
            x.stops(3);
            return x;
        };
        harmless("odds, best, rules", made, x -> {
            x.odds(3, 5);
            x.best(5);
            x.rules(1, 5);
        });
        harmless("leaning", made, x -> {
            x.lean();
            x.seat(0);
            x.shifts();
        });
        harmless("parties", made, x -> {
            x.majority();
            x.rests(0, 1);
            x.affords();
            x.reign();
        });
        harmless("what is ahead", made, x -> {
            x.boards(2, 3);
            x.ruled(1, 0);
            x.round(1);
            x.ruin(2, 100);
            x.ahead(3, 100, 2);
        });
        harmless("trials", made, x -> {
            x.trial(60, true);
            x.span(60, true);
        });
        harmless("clues", made, x -> {
            x.moves(true);
            x.watch();
            x.fire();
            x.ask();
        });
        harmless("an image", made, TopWheel::image);
    }

    /** As many riders as there may be, one in each cradle, of weights 1 to 8 and purses 10 to 80, of parties in turn. */
    private void fullWheel() {
        says("RIDERS (at most 8, numbered from 0 on)");
        TopWheel x = wheel("chest 999");
        for (int r = 0; r < 8; r++) {
            check.fair(x, rider(r + 1, 10 * r + 10, r % 4, r));
        }
        check.same("lean", x.lean(), 2 + 3 + 4 - 6 - 7 - 8);
        check.same("seat: 4 less 8 is as near as 4 itself", x.seat(7), 0);
        check.same("shifts: 2, 6 and 8", x.shifts(), 2 + 32 + 128);
        check.same("majority: 8 and 12 of 36", x.majority(), 2 + 8);
        int[] power = {1, 3, 3, 5};
        for (int p = 0; p < 4; p++) {
            check.same("power of " + p, x.party(p, 3), power[p]);
            check.same("riders of " + p, x.party(p, 1), 17 << p);
        }
        check.same("rests", x.rests(3, 0), 8);
        check.same("affords", x.affords(), 255);
        check.same("reign", x.reign(), 7);
        check.same("richest", x.richest(), 7);
        check.same("room", x.room(), 255);
        check.same("pairs", x.pairs(), 0);
        check.same("level", x.rider(1, 6), 128);
        check.same("rules", x.rules(0, 1), 2500);
        check.same("boards", x.boards(7, 0), 0);
        check.same("ruled", x.ruled(7, 0), 7);
        check.same("round", x.round(0), 8);
        check.same("ruin", x.ruin(0, 16), 1);
        check.same("ahead", x.ahead(0, 7, 1), 7);
        check.same("trial", x.trial(1, false), 999 + 5);
        check.same("purses", x.count(11), 360);
    }
}
