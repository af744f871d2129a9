/** Promises 12 to 18 and 48 to 50: acts, acts undone, the image. */
public final class ActTest {
    private static final Check CHECK = new Check("ActTest");

    public static void main(String[] args) {
        boarding();
        movingOver();
        gettingOff();
        bolting();
        doling();
        telling();
        bribing();
        undoing();
        undoneSeed();
        imaging();
        CHECK.finish();
    }

    private static TopWheel wheel() {
        TopWheel x = new TopWheel();
        CHECK.fair(x, "rider weight 1 purse 10 party 0 in 0;rider weight 2 purse 20 party 1 in 0;"
                + "rider weight 3 purse 30 party 2 in 7;rider weight 4 purse 40 party 3;"
                + "rider weight 5 purse 990 party 0;rider weight 6 purse 0 party 1;bolts 6 0;chest 75");
        return x;
    }

    private static void boarding() {
        TopWheel x = wheel();
        CHECK.index("board(6, 0)", () -> x.board(6, 0));
        CHECK.index("board(-1, 0)", () -> x.board(-1, 0));
        CHECK.index("board(0, 8): the cradle ahead of the state", () -> x.board(0, 8));
        CHECK.index("board(3, -1)", () -> x.board(3, -1));
        CHECK.state("board(0, 1): it sits", () -> x.board(0, 1));
        CHECK.state("board(3, 0): no room", () -> x.board(3, 0));
        CHECK.state("board(3, 6): closed", () -> x.board(3, 6));
        CHECK.same("nothing is remembered of what throws", x.count(14), 0);
        CHECK.same("board(4, 7)", x.board(4, 7), 2);
        CHECK.same("the row moves up", x.rider(5, 7), 1);
        CHECK.same("board(5, 3) with nothing in the purse", x.board(5, 3), 1);
        CHECK.same("one waits", x.count(9), 1);
    }

    private static void movingOver() {
        TopWheel x = wheel();
        CHECK.index("move(6, true)", () -> x.move(6, true));
        CHECK.index("move(-1, false)", () -> x.move(-1, false));
        CHECK.state("move(3, true): it waits", () -> x.move(3, true));
        CHECK.state("move(2, true): 7 to 0, no room", () -> x.move(2, true));
        CHECK.state("move(2, false): closed", () -> x.move(2, false));
        CHECK.same("move(0, false)", x.move(0, false), 7);
        CHECK.same("move(2, true)", x.move(2, true), 0);
        CHECK.same("move(1, true)", x.move(1, true), 1);
        CHECK.same("where they sit", x.cradle(0, 1) + 100 * x.cradle(1, 1) + 10000 * x.cradle(7, 1), 4 + 200 + 10000);
    }

    private static void gettingOff() {
        TopWheel x = wheel();
        CHECK.index("off(6)", () -> x.off(6));
        CHECK.index("off(-1)", () -> x.off(-1));
        CHECK.state("off(3)", () -> x.off(3));
        CHECK.same("off(1)", x.off(1), 4);
        CHECK.same("the last one", x.rider(1, 7), 3);
        CHECK.same("off(0)", x.off(0), 5);
        CHECK.same("behind it", x.rider(0, 7), 4);
        CHECK.same("board again", x.board(1, 0), 1);
        CHECK.same("the row moves up", x.rider(0, 7), 3);
    }

    private static void bolting() {
        TopWheel x = wheel();
        CHECK.index("bolt(8)", () -> x.bolt(8));
        CHECK.index("bolt(-1)", () -> x.bolt(-1));
        CHECK.same("a closed one opens", x.bolt(6), 1);
        CHECK.same("none is closed", x.count(10), 0);
        for (int i = 6; i <= 9; i++) {
            CHECK.same("bolt(3)", x.bolt(3), i);
        }
        CHECK.state("a 10th bolt", () -> x.bolt(3));
    }

    private static void doling() {
        TopWheel x = wheel();
        CHECK.index("dole(6, 0)", () -> x.dole(6, 0));
        CHECK.index("dole(-1, 1)", () -> x.dole(-1, 1));
        CHECK.argument("dole(0, 0)", () -> x.dole(0, 0));
        CHECK.argument("dole(0, -1)", () -> x.dole(0, -1));
        CHECK.argument("dole(0, 76)", () -> x.dole(0, 76));
        CHECK.same("dole(0, 5)", x.dole(0, 5), 15);
        CHECK.same("the chest has less", x.count(6), 70);
        CHECK.same("dole(4, 9)", x.dole(4, 9), 999);
        CHECK.same("dole(4, 1): 999 at most", x.dole(4, 1), 999);
        CHECK.same("it is paid out all the same", x.count(6), 60);
        CHECK.same("dole of all", x.dole(5, 60), 60);
        CHECK.argument("dole of an empty chest", () -> x.dole(5, 1));
    }

    private static void telling() {
        TopWheel x = wheel();
        CHECK.argument("fare(-1)", () -> x.fare(-1));
        CHECK.argument("fare(100)", () -> x.fare(100));
        CHECK.same("fare(99)", x.fare(99), 5);
        CHECK.same("fare(0)", x.fare(0), 99);
        CHECK.same("fare(0) again", x.fare(0), 0);
        CHECK.same("each is an act", x.count(14), 3);
    }

    private static void bribing() {
        TopWheel x = wheel();
        CHECK.argument("bribe(0)", () -> x.bribe(0));
        CHECK.argument("bribe(8)", () -> x.bribe(8));
        CHECK.argument("bribe of less than none", () -> x.bribe(Integer.MIN_VALUE));
        CHECK.same("bribe(7)", x.bribe(7), 7);
        CHECK.same("it costs 10 for each", x.count(6), 5);
        CHECK.state("bribe(1)", () -> x.bribe(1));
        CHECK.same("no stop", x.count(3), 0);
        CHECK.same("no terms", x.party(2, 0), 0);
        CHECK.fair(x, "chest 10;top 0");
        CHECK.same("bribe of the last 10", x.bribe(1), 1);
        CHECK.same("nothing is left", x.count(6), 0);
        CHECK.fair(x, "chest 75;top 0");
        CHECK.same("bribe(3)", x.bribe(3), 3);
        CHECK.same("bribe(4)", x.bribe(4), 7);
    }

    private static void undoing() {
        TopWheel x = wheel();
        CHECK.same("nothing to undo", x.undo(), false);
        for (int i = 1; i <= 14; i++) {
            x.fare(10 + i);
        }
        CHECK.same("12 are remembered", x.count(14), 12);
        for (int i = 13; i >= 2; i--) {
            CHECK.same("undo " + i, x.undo(), true);
            CHECK.same("the fare then", x.count(5), 10 + i);
        }
        CHECK.same("no more", x.undo(), false);
        CHECK.same("the fare stays", x.count(5), 12);
        x.board(3, 1);
        x.move(3, true);
        x.off(3);
        x.bolt(0);
        x.dole(3, 3);
        x.bribe(1);
        CHECK.same("stops of one call are one act", x.stops(60) >= 0, true);
        CHECK.same("acts", x.count(14), 7);
        CHECK.same("rows of the log", x.count(13), 60);
        x.undo();
        CHECK.same("no rows of the log", x.count(13), 0);
        CHECK.same("no stops", x.count(3), 0);
        CHECK.same("no terms", x.party(0, 0) + x.party(1, 0) + x.party(2, 0) + x.party(3, 0), 0);
        CHECK.same("top", x.count(4), 1);
        x.undo();
        CHECK.same("top ahead of the bribe", x.count(4), 0);
        CHECK.same("chest ahead of the bribe", x.count(6), 72);
        x.undo();
        CHECK.same("chest ahead of the dole", x.count(6), 75);
        x.undo();
        CHECK.same("bolts", x.cradle(0, 0), 5);
        x.undo();
        CHECK.same("it sits again", x.rider(3, 0), 2);
        x.undo();
        CHECK.same("it sits where it sat", x.rider(3, 0), 1);
        x.undo();
        CHECK.same("it is the first of the row", x.rider(3, 7), 0);
        x.fare(1);
        CHECK.wrongFair(x, "fare", 4);
        CHECK.same("a wrong text forgets nothing", x.count(14), 1);
        CHECK.law(x, "");
        CHECK.same("a law forgets", x.undo(), false);
        x.fare(2);
        CHECK.fair(x, "");
        CHECK.same("a text forgets", x.undo(), false);
        CHECK.same("undoing is not undone", x.count(5), 2);
    }

    private static void undoneSeed() {
        TopWheel x = wheel();
        x.seed(7);
        x.stops(5);
        int top = x.count(4);
        x.seed(99);
        Check.put(x, "abc");
        CHECK.same("seed is no act", x.count(14), 1);
        x.undo();
        CHECK.same("the tape stays", x.end(3), true);
        x.end(0);
        CHECK.same("the seed is as ahead of the act", x.seed(7), 7);
        x.stops(5);
        CHECK.same("the same again", x.count(4), top);
    }

    private static void imaging() {
        TopWheel x = wheel();
        CHECK.same("no image", x.back(), false);
        CHECK.law(x, "go 3");
        x.stops(2);
        x.image();
        CHECK.same("an image is no act", x.count(14), 1);
        int[] before = new int[14];
        for (int i = 0; i < 14; i++) {
            before[i] = x.count(i);
        }
        int row = x.log(0, 1);
        x.stops(30);
        x.fare(77);
        x.seed(5);
        CHECK.fair(x, "rider weight 1 purse 1 party 1;wind 50;reach 1");
        CHECK.law(x, "");
        Check.put(x, "  ");
        CHECK.same("back", x.back(), true);
        for (int i = 0; i < 14; i++) {
            CHECK.same("count(" + i + ") behind back", x.count(i), before[i]);
        }
        CHECK.same("the log", x.log(0, 1), row);
        CHECK.same("the law", x.farther(), 3);
        CHECK.same("none are remembered", x.count(14), 0);
        CHECK.same("the tape stays", x.end(2), true);
        x.fare(3);
        CHECK.wrongLaw(x, "go", 2);
        CHECK.same("back once more", x.back(), true);
        CHECK.same("fault stays", x.fault(), 2);
        CHECK.same("fare", x.count(5), before[5]);
        CHECK.same("none are remembered", x.undo(), false);
        x.fare(4);
        x.image();
        x.undo();
        CHECK.same("the image stays where an act is undone", x.back(), true);
        CHECK.same("the later image", x.count(5), 4);
    }
}
