import java.util.NoSuchElementException;
import java.util.function.Consumer;
import java.util.function.Supplier;

/** Boundary cases of the section Terms: what is ahead, trials, the log, acts undone, the image, exceptions. */
final class AheadBounds extends Bounds {
    AheadBounds(Check check, Document document) {
        super(check, document);
    }

    @Override
    void run() {
        waits();
        boards();
        ruled();
        round();
        roundOfTheRow();
        ruin();
        richest();
        room();
        pairs();
        weakest();
        trial();
        trialsDraw();
        span();
        led();
        undone();
        twelveUndone();
        allUndone();
        nothingRemembered();
        image();
        toldFirst();
        changesNothing();
        noSuch();
        numbers();
        cannotBe();
        sets();
    }

    private void waits() {
        says("WAITS of a RIDER: how many WAIT ahead of it (none, if it does not WAIT).");
        TopWheel x = wheel(lines(rider(1, 1, 0), 4), lines(rider(1, 1, 0), 4));
        for (int r = 0; r < 8; r++) {
            check.same("of eight who wait, ahead of " + r, x.rider(r, 7), r);
        }
        x.board(0, 0);
        check.same("it does not wait", x.rider(0, 7), NONE);
        check.same("the first is off the row", x.rider(1, 7), 0);
        x.board(4, 0);
        check.same("one of the middle is off the row: ahead", x.rider(3, 7), 2);
        check.same("one of the middle is off the row: behind", x.rider(5, 7), 3);
        x.off(0);
        check.same("the last one", x.rider(0, 7), 6);
    }

    /** Two sit in the only open cradle and pay 1 each time they are at the bottom; a third waits. */
    private TopWheel late(int top, int purse) {
        return wheel("reach 1;fare 1;top " + top + ";" + lines(rider(1, purse, 0, 4), 2) + ";" + rider(1, 1, 0), onlyOpen(4));
    }

    private void boards() {
        says("BOARDS of a RIDER by a told draw: the first N (0 to 100) AHEAD by which it is in a CRADLE; none.");
        check.same("it is in one now", late(4, 13).boards(0, 0), 0);
        check.same("at once", late(7, 1).boards(2, 0), 1);
        check.same("by 99", late(5, 13).boards(2, 0), 99);
        check.same("by 100", late(4, 13).boards(2, 0), 100);
        check.same("by 101 it is too late", late(3, 13).boards(2, 0), NONE);
        TopWheel poor = wheel("reach 2;" + rider(1, 0, 0) + ";" + rider(1, 5, 0));
        check.same("with nothing in the purse", poor.boards(0, 0), NONE);
        check.same("by the greatest draw", poor.boards(1, 1), 1);
        check.argument("a greater draw", () -> poor.boards(1, 2));
        check.argument("a draw below 0", () -> poor.boards(1, -1));
    }

    private void ruled() {
        says("RULED by a told draw: the first N (0 to 100) AHEAD by which one is the GOVERNOR; none.");
        check.same("by 96 and 4", late(0, 12).ruled(2, 0), 100);
        check.same("by 97 and 4 it is too late", late(7, 13).ruled(2, 0), NONE);
        TopWheel x = wheel("reach 8;fare 0;top 3;" + lines(rider(1, 9, 0, 3), 2) + ";" + rider(1, 9, 0, 2));
        check.same("now", x.ruled(0, 7), 0);
        check.same("the second in a cradle", x.ruled(1, 0), NONE);
        check.same("by ones round", x.ruled(2, 0), 7);
        check.same("by sevens", x.ruled(2, 6), 1);
        check.same("by eights it stays", x.ruled(2, 7), NONE);
        check.argument("a greater draw", () -> x.ruled(2, 8));
        check.argument("a draw below 0", () -> x.ruled(2, -1));
    }

    private void round() {
        says("ROUND by a told draw: the least N (1 to 64) AHEAD by which ON TOP is as now and every RIDER is in the CRADLE in which it is now,");
        TopWheel x = wheel("reach 8;top 5;fare 1;" + rider(1, 999, 0, 3));
        check.same("by eights: not 0, but 1", x.round(7), 1);
        check.same("by fours", x.round(3), 2);
        check.same("by ones", x.round(0), 8);
        check.argument("a greater draw", () -> x.round(8));
        check.argument("a draw below 0", () -> x.round(-1));
        check.same("without riders", new TopWheel().round(1), 4);
        for (int purse = 1; purse <= 8; purse++) {
            TopWheel y = wheel("reach 1;fare 1;" + rider(1, purse, 0), onlyOpen(4));
            check.same("in by 8, off by 8 for each and 8: " + purse, y.round(0), purse == 8 ? NONE : 8 * purse + 8);
        }
        for (int purse = 62; purse <= 64; purse++) {
            TopWheel y = wheel("reach 8;fare 1;" + rider(1, purse, 0));
            check.same("in by 1, off by 1 for each and 1: " + purse, y.round(7), purse == 64 ? NONE : purse + 1);
        }
        check.same("one gets off and never in again", wheel("fare 9;" + rider(1, 9, 0, 4)).round(0), NONE);
    }

    private void roundOfTheRow() {
        says("or WAITS as now (at whichever place of the row); none.");
        TopWheel x = wheel("reach 1;fare 9;" + rider(1, 9, 0) + ";" + rider(1, 0, 0), onlyOpen(4));
        check.same("the first is the last then", x.round(0), 16);
        x.stops(16);
        check.same("it is", x.rider(0, 7), 1);
        check.same("one who waits and gets in for good", wheel("fare 0;" + rider(1, 9, 0)).round(0), NONE);
    }

    private void ruin() {
        says("RUIN by a told draw: RIDERS whose PURSE is 0 AHEAD by N, as bits.");
        TopWheel x = wheel("reach 2;fare 5;" + rider(1, 5, 0, 5) + ";" + rider(1, 6, 0, 6) + ";" + rider(1, 0, 0) + ";" + rider(1, 999, 0, 0));
        check.same("now", x.ruin(0, 0), 4);
        check.same("by 1", x.ruin(0, 1), 5);
        check.same("by 1 of the greatest draw", x.ruin(1, 1), 4);
        check.same("by 9", x.ruin(0, 9), 5);
        check.same("by 10", x.ruin(0, 10), 7);
        check.same("by 100", x.ruin(0, 100), 7);
        check.argument("by 101", () -> x.ruin(0, 101));
        check.argument("by -1", () -> x.ruin(0, -1));
        check.argument("a greater draw", () -> x.ruin(2, 0));
        check.argument("a draw below 0", () -> x.ruin(-1, 0));
        check.same("without riders", new TopWheel().ruin(0, 100), 0);
        check.same("by just 100", wheel("reach 1;fare 1;top 4;" + rider(1, 13, 0, 4)).ruin(0, 100), 1);
        check.same("not by 99", wheel("reach 1;fare 1;top 4;" + rider(1, 13, 0, 4)).ruin(0, 99), 0);
    }

    private void richest() {
        says("RICHEST: the RIDER of the greatest PURSE (of several the least; none).");
        check.same("none", new TopWheel().richest(), NONE);
        check.same("with nothing", wheel(lines(rider(1, 0, 0), 2)).richest(), 0);
        check.same("of several the least", wheel(rider(1, 8, 0) + ";" + rider(1, 9, 0, 1) + ";" + rider(1, 9, 0)).richest(), 1);
        check.same("the last one, who waits", wheel(rider(1, 8, 0, 0) + ";" + rider(1, 9, 0)).richest(), 1);
    }

    private void room() {
        says("ROOM: CRADLES that are not CLOSED and have room, as bits.");
        check.same("all at first", new TopWheel().room(), 255);
        check.same("one in it", wheel(rider(1, 1, 0, 7)).room(), 255);
        check.same("two in it", wheel(lines(rider(1, 1, 0, 7), 2)).room(), 127);
        check.same("closed", wheel("bolts 0 0;bolts 1 1").room(), 254);
        check.same("none", wheel(onlyOpen(3), "bolts 3 0").room(), 0);
    }

    private void pairs() {
        says("PAIRS: CRADLES in which there are two of one PARTY: how many.");
        check.same("none", new TopWheel().pairs(), 0);
        check.same("two who wait", wheel(lines(rider(1, 1, 2), 2)).pairs(), 0);
        check.same("of unlike parties", wheel(rider(1, 1, 2, 0) + ";" + rider(1, 1, 3, 0)).pairs(), 0);
        check.same("in unlike cradles", wheel(rider(1, 1, 2, 0) + ";" + rider(1, 1, 2, 1)).pairs(), 0);
        check.same("one", wheel(rider(1, 1, 3, 7) + ";" + rider(1, 1, 0, 0) + ";" + rider(1, 1, 3, 7)).pairs(), 1);
        check.same("four", wheel(lines(rider(1, 1, 0, 0), 2) + ";" + lines(rider(1, 1, 0, 1), 2) + ";" + lines(rider(1, 1, 1, 2), 2)
                + ";" + lines(rider(1, 1, 3, 7), 2)).pairs(), 4);
    }

    private void weakest() {
        says("WEAKEST: the CRADLE of the fewest BOLTS (of several the least).");
        check.same("at first", new TopWheel().weakest(), 0);
        check.same("the last", wheel("bolts 7 4").weakest(), 7);
        check.same("the second", wheel("bolts 1 4").weakest(), 1);
        check.same("of several the least", wheel("bolts 7 4;bolts 2 4;bolts 0 9").weakest(), 2);
        check.same("a closed one", wheel("bolts 6 0;bolts 1 1").weakest(), 6);
    }

    private void trial() {
        says("TRIAL of N STOPS (0 to 60) from now (draws, too; nothing stays): CHEST then; how many WAIT then.");
        Supplier<TopWheel> made = () -> {
            TopWheel x = wheel("wind 60;fare 9;chest 50;" + rider(1, 60, 0, 1) + ";" + rider(1, 70, 0, 4) + ";" + rider(1, 80, 1) + ";"
                    + rider(1, 0, 2) + ";bolts 0 1;bolts 1 1;bolts 2 1");
            x.stops(3);
            return x;
        };
        for (int n : new int[] {0, 1, 2, 59, 60}) {
            TopWheel x = made.get();
            int chest = x.trial(n, false);
            int waiting = x.trial(n, true);
            if (n > 0) {
                x.stops(n);
            }
            check.same("chest by " + n, chest, x.count(6));
            check.same("who waits by " + n, waiting, x.count(9));
        }
        check.argument("61", () -> made.get().trial(61, false));
        check.argument("-1", () -> made.get().trial(-1, true));
        harmless("a trial", made, x -> x.trial(60, true));
    }

    private void trialsDraw() {
        says("from now (draws, too; nothing stays)");
        TopWheel x = wheel("reach 8;fare 5;" + rider(1, 50, 0, 3));
        x.seed(seedFor(d -> d % 8 == 6));
        check.same("7 on: 3 is at the bottom", x.trial(1, false), 5);
        x.seed(seedFor(d -> d % 8 == 5));
        check.same("6 on: it is not", x.trial(1, false), 0);
        check.same("the seed stays", x.seed(1), seedFor(d -> d % 8 == 5));
    }

    private void span() {
        says("SPAN: the least and the greatest CHEST of such TRIALS from SEED 1, 2, .. 6.");
        // By reach 5 seed 6 alone goes on by 2, and 7 alone by 5; by reach 8 seed 0 alone goes on by 1.
        spanOf("6 is one of them", "reach 5;" + rider(1, 50, 0, 6), 1, 0, 5);
        spanOf("7 is none of them", "reach 5;" + rider(1, 50, 0, 1), 1, 0, 0);
        spanOf("0 is none of them", "reach 8;" + rider(1, 50, 0, 5), 1, 0, 0);
        // By reach 7 seed 1 alone is at 2 behind two stops, and none passes there.
        spanOf("1 is one of them", "reach 7;" + rider(1, 50, 0, 6), 2, 0, 5);
        spanOf("all of them pay", "reach 1;" + rider(1, 50, 0, 5), 1, 5, 5);
        spanOf("nobody pays", "reach 1", 60, 0, 0);
        TopWheel x = wheel("chest 7;" + rider(1, 50, 0, 4));
        check.same("by 0: the least", x.span(0, false), 7);
        check.same("by 0: the greatest", x.span(0, true), 7);
        check.same("by 60", x.span(60, false) <= x.span(60, true), true);
        check.argument("61", () -> x.span(61, false));
        check.argument("-1", () -> x.span(-1, true));
    }

    private void spanOf(String why, String fair, int n, int least, int greatest) {
        TopWheel x = wheel(fair);
        x.seed(99);
        check.same("the least: " + why, x.span(n, false), least);
        check.same("the greatest: " + why, x.span(n, true), greatest);
        check.same("the seed stays", x.seed(1), 99);
    }

    private void led() {
        says("LED: how many rows of THE LOG have one as GOVERNOR; the STOP of the latest (none).");
        TopWheel x = wheel("reach 1;fare 0;" + lines(rider(1, 9, 0, 1), 2) + ";" + rider(1, 9, 0, 2) + ";" + rider(1, 9, 0));
        check.same("no rows", x.led(0, false), 0);
        check.same("no rows: the stop", x.led(0, true), NONE);
        x.stops(1);
        check.same("one row", x.led(0, false), 1);
        check.same("stop 0", x.led(0, true), 0);
        check.same("the second in a cradle", x.led(1, false), 0);
        check.same("the second in a cradle: the stop", x.led(1, true), NONE);
        check.same("one who waited", x.led(3, false), 0);
        x.stops(59);
        check.same("eight of 60 rows", x.led(0, false), 8);
        check.same("the latest", x.led(0, true), 56);
        x.stops(1);
        check.same("the first row is gone", x.led(0, false), 7);
        check.same("not of another", x.led(2, false), 8);
        x.off(0);
        check.same("one who waits now", x.led(0, false), 7);
        TopWheel gone = wheel("reach 1;fare 0;" + rider(1, 9, 0, 1));
        gone.stops(1);
        gone.off(0);
        check.fair(gone, onlyOpen(0) + ";bolts 0 0");
        gone.stops(59);
        check.same("60 rows, the first of which is its", gone.led(0, false) * 100 + gone.led(0, true), 100);
        gone.stops(1);
        check.same("it is gone", gone.led(0, false), 0);
        check.same("and its stop", gone.led(0, true), NONE);
    }

    private void undone() {
        says("UNDONE: the latest ACT not undone yet");
        TopWheel x = new TopWheel();
        check.same("none at first", x.undo(), false);
        x.fare(1);
        x.fare(2);
        x.fare(3);
        check.same("the latest", x.undo(), true);
        check.same("fare 2", x.count(5), 2);
        check.same("the one ahead of it", x.undo(), true);
        check.same("fare 1", x.count(5), 1);
        x.fare(4);
        check.same("a new one", x.undo(), true);
        check.same("fare 1 again", x.count(5), 1);
        check.same("the first", x.undo(), true);
        check.same("fare 5", x.count(5), 5);
        check.same("none are left", x.undo(), false);
        check.same("nothing happened", x.count(5), 5);
    }

    private void twelveUndone() {
        says("(12 are remembered; STOPS of one call are one):");
        TopWheel x = new TopWheel();
        for (int i = 1; i <= 13; i++) {
            x.fare(10 + i);
            check.same("remembered", x.count(14), Math.min(12, i));
        }
        for (int i = 1; i <= 12; i++) {
            check.same("undone " + i, x.undo(), true);
            check.same("left", x.count(14), 12 - i);
        }
        check.same("the 13th is not", x.undo(), false);
        check.same("the fare ahead of the second", x.count(5), 11);
        x.stops(60);
        check.same("60 stops are one", x.count(14), 1);
        check.same("undone", x.undo(), true);
        check.same("all 60", x.count(3) + x.count(13), 0);
        check.same("none are left", x.undo(), false);
    }

    /** Behind seven stops by ones: 0 sits in 4, 1 in 0, 2 in 5, 3 waits; 7 is on top, and the chest has 108. */
    private TopWheel busy() {
        TopWheel x = wheel("reach 1;chest 99;fare 7;" + rider(1, 20, 0, 4) + ";" + rider(2, 30, 1, 0) + ";" + rider(3, 40, 2) + ";"
                + rider(4, 0, 3) + ";bolts 7 1;bolts 6 8");
        check.law(x, "go 1 if rich;more 2");
        x.stops(7);
        check.fair(x, "wind 50;reach 3");
        x.bolt(6);
        return x;
    }

    private void allUndone() {
        says("all is as ahead of it (but for the TAPE, fault(), THE IMAGE).");
        undoes("board", x -> x.board(3, 1));
        undoes("move up", x -> x.move(0, true));
        undoes("move down", x -> x.move(1, false));
        undoes("off", x -> x.off(0));
        undoes("bolt", x -> x.bolt(1));
        undoes("dole", x -> x.dole(0, 108));
        undoes("fare", x -> x.fare(99));
        undoes("bribe", x -> x.bribe(7));
        undoes("stops", x -> x.stops(60));
        undoes("fewer stops", x -> x.stops(13));
        undoes("an act and a seed behind it", x -> {
            x.fare(88);
            x.seed(77);
        });
        TopWheel x = busy();
        x.fare(1);
        x.image();
        Check.put(x, "fare");
        check.argument("a wrong text", x::fair);
        Check.put(x, "abc");
        check.same("undone", x.undo(), true);
        check.same("the tape stays", x.end(3), true);
        check.same("fault() stays", x.fault(), 4);
        check.same("the image stays", x.back(), true);
        check.same("it is of the fare that was told", x.count(5), 1);
        TopWheel wrong = busy();
        check.wrongFair(wrong, "fare", 4);
        wrong.fare(1);
        check.wrongFair(wrong, "fare x", 5);
        wrong.undo();
        check.same("fault() is not as ahead of the act", wrong.fault(), 5);
    }

    /** An act, undone, leaves all as it was. */
    private void undoes(String act, Consumer<TopWheel> run) {
        TopWheel x = busy();
        String before = View.of(busy());
        run.accept(x);
        check.same(act + " is one act more", x.count(14), 2);
        check.same(act + " is undone", x.undo(), true);
        check.alike(act + ", undone", View.of(x), before);
    }

    private void nothingRemembered() {
        says("A text, going back: none are remembered.");
        TopWheel x = new TopWheel();
        x.fare(1);
        check.fair(x, "");
        check.same("behind a text of the fair", x.count(14), 0);
        check.same("nothing is undone", x.undo(), false);
        x.fare(2);
        check.law(x, "");
        check.same("behind a law", x.count(14), 0);
        check.same("nothing is undone", x.undo(), false);
        x.image();
        x.fare(3);
        check.same("behind an image all is remembered", x.count(14), 1);
        x.back();
        check.same("behind going back", x.count(14), 0);
        check.same("nothing is undone", x.undo(), false);
        check.same("the fare of the image", x.count(5), 2);
        x.fare(4);
        check.wrongFair(x, "fare", 4);
        check.wrongLaw(x, "go", 2);
        check.same("behind wrong texts all is remembered", x.count(14), 1);
    }

    private void image() {
        says("THE IMAGE (one) of all may be kept, and gone back to (but for the TAPE, fault() and THE IMAGE itself).");
        Supplier<TopWheel> made = () -> {
            TopWheel x = busy();
            x.image();
            x.back();
            return x;
        };
        harmless("going back", made, x -> {
            check.fair(x, "bolts 1 9;fare 3;chest 5;reach 8;wind 1;top 6;" + rider(1, 1, 1, 2));
            check.law(x, "go 9;more 9;less 9");
            x.stops(59);
            x.seed(5);
            x.back();
        });
        TopWheel x = busy();
        x.image();
        x.fare(1);
        x.image();
        x.fare(2);
        check.same("gone back", x.back(), true);
        check.same("there is one, the latest", x.count(5), 1);
        x.fare(3);
        check.wrongFair(x, "fare", 4);
        Check.put(x, "abc");
        check.same("it may be gone back to again", x.back(), true);
        check.same("fare", x.count(5), 1);
        check.same("the tape stays", x.end(3), true);
        check.same("fault() stays", x.fault(), 4);
        TopWheel bare = new TopWheel();
        bare.image();
        check.law(bare, "");
        bare.back();
        check.same("as ahead of any law", bare.count(2), NONE);
        check.same("as ahead of any text", bare.count(1), 0);
    }

    private void toldFirst() {
        says("Of several exceptions the one told first is thrown;");
        TopWheel x = wheel(rider(1, 1, 0, 0) + ";chest 0;reach 1");
        check.index("rider(1, 8)", () -> x.rider(1, 8));
        check.index("cradle(8, 6)", () -> x.cradle(8, 6));
        check.index("party(4, 4)", () -> x.party(4, 4));
        check.index("board(0, 8), which sits", () -> x.board(0, 8));
        check.index("dole(1, 0)", () -> x.dole(1, 0));
        check.argument("bribe(8) of an empty chest", () -> x.bribe(8));
        check.index("odds(8, 0)", () -> x.odds(8, 0));
        check.index("rules(4, 0)", () -> x.rules(4, 0));
        check.index("rests(4, 4)", () -> x.rests(4, 4));
        check.index("rests(-1, -1)", () -> x.rests(-1, -1));
        check.index("boards(1, 1)", () -> x.boards(1, 1));
        check.index("ruled(1, 1)", () -> x.ruled(1, 1));
        check.argument("ahead(1, 0, 3)", () -> x.ahead(1, 0, 3));
        check.argument("ahead(0, 101, 3)", () -> x.ahead(0, 101, 3));
        TopWheel full = wheel("", "", "", "", "", "", "", "", "", "", "", "");
        Check.put(full, "wrong");
        check.argument("a wrong 13th text", full::fair);
        check.same("its fault", full.fault(), 0);
    }

    private void changesNothing() {
        says("a call that throws changes nothing but the TAPE, where it is used up.");
        Class<IndexOutOfBoundsException> index = IndexOutOfBoundsException.class;
        Class<IllegalArgumentException> argument = IllegalArgumentException.class;
        Class<IllegalStateException> state = IllegalStateException.class;
        Supplier<TopWheel> made = () -> {
            TopWheel x = wheel("chest 9;" + lines(rider(1, 20, 0, 4), 2) + ";" + rider(2, 30, 1, 3) + ";" + rider(3, 40, 2)
                    + ";bolts 5 0;bolts 6 9;reach 2");
            check.law(x, "go 1 if rich;more 2");
            x.fare(6);
            Check.put(x, 1, 2, 3);
            return x;
        };
        refused("board(9, 0)", index, made, x -> x.board(9, 0));
        refused("board(0, 1)", state, made, x -> x.board(0, 1));
        refused("board(3, 4)", state, made, x -> x.board(3, 4));
        refused("board(3, 5)", state, made, x -> x.board(3, 5));
        refused("move(2, true)", state, made, x -> x.move(2, true));
        refused("move(0, true)", state, made, x -> x.move(0, true));
        refused("move(3, true)", state, made, x -> x.move(3, true));
        refused("off(3)", state, made, x -> x.off(3));
        refused("bolt(6)", state, made, x -> x.bolt(6));
        refused("dole(0, 10)", argument, made, x -> x.dole(0, 10));
        refused("dole(0, 0)", argument, made, x -> x.dole(0, 0));
        refused("fare(100)", argument, made, x -> x.fare(100));
        refused("bribe(1)", state, made, x -> x.bribe(1));
        refused("bribe(8)", argument, made, x -> x.bribe(8));
        refused("stops(61)", argument, made, x -> x.stops(61));
        refused("stops(0)", argument, made, x -> x.stops(0));
        refused("trial(61, true)", argument, made, x -> x.trial(61, true));
        refused("boards(0, 2)", argument, made, x -> x.boards(0, 2));
        refused("log(0, 4)", NoSuchElementException.class, made, x -> x.log(0, 4));
        usedUp("fair", made.get(), x -> x.fair());
        usedUp("law", made.get(), x -> x.law());
        usedUp("moves", made.get(), x -> x.moves(false));
        usedUp("watch", made.get(), x -> x.watch());
        usedUp("fire", made.get(), x -> x.fire());
        usedUp("ask", made.get(), x -> x.ask());
        TopWheel full = wheel("", "", "", "", "", "", "", "", "", "", "", "");
        Check.put(full, "fare 1");
        check.thrown("a 13th text", UnsupportedOperationException.class, full::fair);
        check.same("it is used up", full.feed(0, 0, 0, 0, 0), 20);
    }

    /** A tape that no such call takes: its first byte is above all that may be told. */
    private void usedUp(String call, TopWheel x, Consumer<TopWheel> run) {
        Check.put(x, 200, 2, 3);
        check.argument(call, () -> run.accept(x));
        check.same("the tape is used up by " + call, x.feed(0, 0, 0, 0, 0), 20);
        check.same("fare", x.count(5), 6);
        check.same("law", x.count(2), 2);
        check.same("acts", x.count(14), 1);
    }

    private void noSuch() {
        says("IndexOutOfBoundsException: there is no such RIDER, CRADLE, PARTY.");
        TopWheel x = wheel("reach 1;chest 99;" + rider(1, 1, 0, 0) + ";" + rider(1, 1, 0));
        for (int none : new int[] {-1, 2, 8, MOST, LEAST}) {
            check.index("rider", () -> x.rider(none, 0));
            check.index("board", () -> x.board(none, 0));
            check.index("move up", () -> x.move(none, true));
            check.index("move down", () -> x.move(none, false));
            check.index("off", () -> x.off(none));
            check.index("dole", () -> x.dole(none, 1));
            check.index("seat", () -> x.seat(none));
            check.index("boards", () -> x.boards(none, 0));
            check.index("ruled", () -> x.ruled(none, 0));
            check.index("led", () -> x.led(none, false));
        }
        for (int none : new int[] {-1, 8, MOST, LEAST}) {
            check.index("cradle", () -> x.cradle(none, 0));
            check.index("board", () -> x.board(1, none));
            check.index("bolt", () -> x.bolt(none));
            check.index("odds", () -> x.odds(none, 1));
        }
        for (int none : new int[] {-1, 4, MOST, LEAST}) {
            check.index("party", () -> x.party(none, 0));
            check.index("rules", () -> x.rules(none, 1));
            check.index("rests", () -> x.rests(none, 0));
            check.index("rests of another", () -> x.rests(0, none));
        }
    }

    private void numbers() {
        says("IllegalArgumentException: a number is none, or two are one.");
        TopWheel x = wheel("reach 1;chest 99;" + rider(1, 1, 0, 0));
        for (int none : new int[] {-1, 101, MOST, LEAST}) {
            check.argument("fare", () -> x.fare(none));
            check.argument("bribe", () -> x.bribe(none));
            check.argument("stops", () -> x.stops(none));
            check.argument("dole", () -> x.dole(0, none));
            check.argument("odds", () -> x.odds(0, none));
            check.argument("best", () -> x.best(none));
            check.argument("rules", () -> x.rules(0, none));
            check.argument("boards", () -> x.boards(0, none));
            check.argument("ruled", () -> x.ruled(0, none));
            check.argument("round", () -> x.round(none));
            check.argument("ruin by a draw", () -> x.ruin(none, 0));
            check.argument("ruin by N", () -> x.ruin(0, none));
            check.argument("ahead by a draw", () -> x.ahead(none, 0, 0));
            check.argument("ahead by N", () -> x.ahead(0, none, 0));
            check.argument("trial", () -> x.trial(none, false));
            check.argument("span", () -> x.span(none, false));
        }
        check.argument("two are one", () -> x.rests(2, 2));
    }

    private void cannotBe() {
        says("IllegalStateException: it cannot be.");
        TopWheel x = wheel(rider(1, 1, 0, 0) + ";" + rider(1, 1, 0) + ";bolts 1 0;bolts 7 9");
        check.state("to get in where one sits", () -> x.board(0, 2));
        check.state("to get in where it is closed", () -> x.board(1, 1));
        check.state("to move over where it is closed", () -> x.move(0, true));
        check.state("to move over where one waits", () -> x.move(1, true));
        check.state("to get off where one waits", () -> x.off(1));
        check.state("a 10th bolt", () -> x.bolt(7));
        check.state("a bribe that the chest has not", () -> x.bribe(1));
    }

    private void sets() {
        says("Sets are bits; of none they count for nothing.");
        TopWheel x = wheel("bolts 0 0");
        check.same("riders of a party", x.party(0, 1), 0);
        check.same("riders in a cradle", x.cradle(0, 1), 0);
        check.same("shifts", x.shifts(), 0);
        check.same("majority", x.majority(), 0);
        check.same("ruin", x.ruin(0, 1), 0);
        check.same("closed cradles", x.count(10), 1);
        Check.put(x, 0, 1, 0, 0);
        check.same("fire", x.fire(), 0);
    }
}
