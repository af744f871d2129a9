/** Promises 1 to 6: a new object, the tape, the fair, the law, the first wrong byte. */
public final class TextTest {
    private static final Check CHECK = new Check("TextTest");

    public static void main(String[] args) {
        newObject();
        tape();
        fairLines();
        fairFaults();
        fairLimits();
        lawFaults();
        lawLimits();
        lawMeaning();
        lawOfRiders();
        CHECK.finish();
    }

    private static void newObject() {
        TopWheel x = new TopWheel();
        int[] due = {0, 0, -1, 0, 0, 5, 0, 4, 0, 0, 0, 0, 40, 0, 0, -1};
        for (int what = 0; what < due.length; what++) {
            CHECK.same("count(" + what + ") of a new one", x.count(what), due[what]);
        }
        CHECK.same("count(-1)", x.count(-1), -1);
        CHECK.same("fault() ahead of any", x.fault(), -1);
        CHECK.same("seed(1) of a new one", x.seed(1), 1);
        CHECK.same("NONE", TopWheel.NONE, -1);
    }

    private static void tape() {
        TopWheel x = new TopWheel();
        CHECK.same("end(1) of an empty tape", x.end(1), false);
        CHECK.same("end(-1)", x.end(-1), false);
        CHECK.same("end(0)", x.end(0), true);
        for (int i = 1; i <= 20; i++) {
            CHECK.same("feed " + i, x.feed(0x20202020, 0x20202020, 0x20202020, 0x20202020, 0x20202020), 20 * i);
        }
        CHECK.same("feed beyond 400", x.feed(1, 2, 3, 4, 5), -1);
        CHECK.same("end(401)", x.end(401), false);
        CHECK.same("end(381)", x.end(381), true);
        CHECK.same("feed beyond 400 by one", x.feed(1, 2, 3, 4, 5), -1);
        CHECK.same("law of 381 blanks", x.law(), 0);
        CHECK.same("the tape is used up", x.end(1), false);
        CHECK.same("feed", x.feed(0x66617265, 0x20372000, 0, 0, 0), 20);
        CHECK.same("end", x.end(6), true);
        CHECK.same("fair", x.fair(), 1);
        CHECK.same("the highest byte came first", x.count(5), 7);
        CHECK.same("the tape is used up by fair", x.end(1), false);
        x.feed(0xffffffff, 0, 0, 0, 0);
        CHECK.argument("bytes above 127", x::law);
        CHECK.same("fault at 0", x.fault(), 0);
        CHECK.same("the tape is used up by a wrong text", x.end(1), false);
    }

    private static void fairLines() {
        TopWheel x = new TopWheel();
        CHECK.fair(x, "  rider weight 9 purse 999 party 3 in 7 ;fare 0; chest 999;reach 8;wind 100;top 7;bolts 7 9  ");
        CHECK.same("fault behind a right text", x.fault(), -1);
        CHECK.same("riders", x.count(0), 1);
        CHECK.same("weight", x.rider(0, 1), 9);
        CHECK.same("purse", x.rider(0, 2), 999);
        CHECK.same("party", x.rider(0, 3), 3);
        CHECK.same("cradle", x.rider(0, 0), 7);
        CHECK.same("fare", x.count(5), 0);
        CHECK.same("chest", x.count(6), 999);
        CHECK.same("reach", x.count(7), 8);
        CHECK.same("wind", x.count(8), 100);
        CHECK.same("top", x.count(4), 7);
        CHECK.same("bolts", x.cradle(7, 0), 9);
        CHECK.fair(x, "rider weight1purse007party0in 7;fare 007");
        CHECK.same("no blanks between words and numbers", x.rider(1, 2), 7);
        CHECK.same("second text", x.count(1), 2);
        CHECK.same("riders come behind those there are", x.cradle(7, 1), 3);
        CHECK.fair(x, "bolts 7 0;rider weight 1 purse 0 party 0;rider weight 1 purse 0 party 0");
        CHECK.same("those who sit in a closed one stay", x.cradle(7, 1), 3);
        CHECK.same("the first waits first", x.rider(2, 7), 0);
        CHECK.same("the second waits behind", x.rider(3, 7), 1);
        CHECK.fair(x, "");
        CHECK.fair(x, "   ");
        CHECK.same("texts without lines count", x.count(1), 5);
    }

    private static void fairFaults() {
        TopWheel x = new TopWheel();
        CHECK.wrongFair(x, ";", 0);
        CHECK.wrongFair(x, " fare 5;", 8);
        CHECK.wrongFair(x, "fare 5;  ", 9);
        CHECK.wrongFair(x, "fare 5;;fare 6", 7);
        CHECK.wrongFair(x, "fare 5 fare 6", 7);
        CHECK.wrongFair(x, "fare 5,", 6);
        CHECK.wrongFair(x, "fare", 4);
        CHECK.wrongFair(x, "fare ", 5);
        CHECK.wrongFair(x, "fare x", 5);
        CHECK.wrongFair(x, "fare :", 5);
        CHECK.wrongFair(x, "fare /", 5);
        CHECK.wrongFair(x, "farez 5", 0);
        CHECK.wrongFair(x, "farea 5", 0);
        CHECK.wrongFair(x, "fare`5", 4);
        CHECK.wrongFair(x, "fare{5", 4);
        CHECK.wrongFair(x, ";".repeat(400), 0);
        CHECK.wrongFair(x, "fares 5", 0);
        CHECK.wrongFair(x, "Fare 5", 0);
        CHECK.wrongFair(x, "fare 0005", 5);
        CHECK.wrongFair(x, "fare\t5", 4);
        CHECK.wrongFair(x, "5", 0);
        CHECK.wrongFair(x, "bolts 70", 6);
        CHECK.wrongFair(x, "bolts 7", 7);
        CHECK.wrongFair(x, "go 1", 0);
        CHECK.wrongFair(x, "rider weight 10 purse 1 party 1", 13);
        CHECK.wrongFair(x, "rider weight 1 purse 1 party 1 in", 33);
        CHECK.wrongFair(x, "rider weight 1 purse 1 party 1 at 2", 31);
        CHECK.wrongFair(x, "rider weight 1 purse 1 party 1 in x", 34);
        String two = "rider weight 1 purse 1 party 1 in 2;";
        CHECK.wrongFair(x, two + two + "rider weight 1 purse 1 party 1 in 2", 106);
        CHECK.wrongFair(x, "fare 9;chest 8;reach 7;wind 6;top 5;bolts 4 3;oops", 46);
        int[] due = {0, 0, -1, 0, 0, 5, 0, 4, 0, 0, 0, 0, 40, 0, 0};
        for (int what = 0; what < due.length; what++) {
            CHECK.same("of a wrong text nothing stays: count(" + what + ")", x.count(what), due[what]);
        }
        CHECK.same("a text that is right behind a wrong one", x.fair(), 1);
        CHECK.same("fault then", x.fault(), -1);
    }

    private static void fairLimits() {
        TopWheel x = new TopWheel();
        String lines = "top 1;top 1;top 1;top 1;top 1;top 1;top 1;top 1;top 1;top 1;top 1;top 1;top 1;top 2";
        CHECK.fair(x, lines);
        CHECK.same("14 lines", x.count(4), 2);
        CHECK.wrongFair(x, lines + " ; top 3", 86);
        CHECK.wrongFair(x, lines + ";", 84);
        CHECK.wrongFair(x, lines + "; 7", 85);
        CHECK.same("nothing stays", x.count(4), 2);
        String four = "rider weight 1 purse 1 party 0;rider weight 1 purse 1 party 0;"
                + "rider weight 1 purse 1 party 0;rider weight 1 purse 1 party 0";
        CHECK.fair(x, four);
        CHECK.fair(x, four);
        CHECK.same("8 riders", x.count(0), 8);
        CHECK.wrongFair(x, "fare 3; rider weight 1 purse 1 party 0", 8);
        CHECK.wrongFair(x, "rider", 0);
        CHECK.same("8 riders still", x.count(0), 8);
        for (int i = 4; i <= 12; i++) {
            CHECK.fair(x, "");
            CHECK.same("texts", x.count(1), i);
        }
        CHECK.wrongFair(x, "fare", 4);
        Check.put(x, "fare 44");
        CHECK.thrown("a 13th text", UnsupportedOperationException.class, x::fair);
        CHECK.same("it was read, and was not wrong", x.fault(), -1);
        CHECK.same("nothing of it stays", x.count(5), 5);
        CHECK.same("the tape is used up", x.end(1), false);
    }

    private static void lawFaults() {
        TopWheel x = new TopWheel();
        CHECK.wrongLaw(x, "go", 2);
        CHECK.wrongLaw(x, "go 31", 3);
        CHECK.wrongLaw(x, "go 1 or", 5);
        CHECK.wrongLaw(x, "go 1 if", 7);
        CHECK.wrongLaw(x, "go 1 if ", 8);
        CHECK.wrongLaw(x, "go 1 if if", 8);
        CHECK.wrongLaw(x, "go 1 if rich rich", 13);
        CHECK.wrongLaw(x, "go 1 if rich and", 16);
        CHECK.wrongLaw(x, "go 1 if rich or or", 16);
        CHECK.wrongLaw(x, "go 1 if (rich", 13);
        CHECK.wrongLaw(x, "go 1 if rich)", 12);
        CHECK.wrongLaw(x, "go 1 if ()", 9);
        CHECK.wrongLaw(x, "go 1 if not", 11);
        CHECK.wrongLaw(x, "go 1 if 1", 9);
        CHECK.wrongLaw(x, "go 1 if 1+", 10);
        CHECK.wrongLaw(x, "go 1 if 1+rich<2", 10);
        CHECK.wrongLaw(x, "go 1 if 1+2", 11);
        CHECK.wrongLaw(x, "go 1 if 1+2 and rich", 12);
        CHECK.wrongLaw(x, "go 1 if 1=2", 9);
        CHECK.wrongLaw(x, "go 1 if 1000<2", 8);
        CHECK.wrongLaw(x, "go 1 if 1<2<3", 11);
        CHECK.wrongLaw(x, "go 1 if (1)<2", 10);
        CHECK.wrongLaw(x, "go 1 if purse<2", 8);
        CHECK.wrongLaw(x, "rider weight 1 purse 1 party 1", 0);
        CHECK.wrongLaw(x, "go 1 if ((((((rich))))));go 1 if (((((((rich)))))))", 39);
        CHECK.wrongLaw(x, "go 1 if not(not(not(not rich)))", 20);
        CHECK.wrongLaw(x, "go 1 if not(not(not(rich)and not((rich))))", 33);
        CHECK.same("no law yet", x.count(2), -1);
        CHECK.law(x, "go 1 if not(not(not(rich)and not(rich)or((rich))))");
        CHECK.law(x, "go 1 if not not not not not not rich and((((((1<2))))))or(((((not rich)))))");
    }

    private static void lawLimits() {
        TopWheel x = new TopWheel();
        String lines = "go 1;go 1;go 1;go 1;go 1;go 1;go 1;go 1;go 1;go 1;go 1;go 30";
        CHECK.law(x, lines);
        CHECK.same("12 lines", x.count(2), 12);
        CHECK.same("farther", x.farther(), 41);
        CHECK.wrongLaw(x, lines + ";go 1", 61);
        CHECK.wrongLaw(x, lines + ";", 61);
        CHECK.wrongLaw(x, lines + " 1", 61);
        CHECK.same("of a wrong law nothing stays", x.farther(), 41);
        CHECK.law(x, "more 1");
        CHECK.same("the law is in place of the one before", x.farther(), 0);
        CHECK.law(x, " ");
        CHECK.same("a law without lines", x.count(2), 0);
        Check.put(x, "go 1;go 2;more 3");
        CHECK.same("law() tells the lines", x.law(), 3);
        CHECK.same("laws are no texts of the fair", x.count(1), 0);
        StringBuilder longest = new StringBuilder("go 1 if 1");
        while (longest.length() < 396) {
            longest.append("+1");
        }
        CHECK.law(x, longest + "<0");
        CHECK.same("a long sum", x.farther(), 0);
        CHECK.wrongLaw(x, longest + ">0;", 400);
    }

    private static boolean holds(TopWheel x, String condition) {
        CHECK.law(x, "go 1 if " + condition);
        return x.farther() == 1;
    }

    private static void lawMeaning() {
        TopWheel x = new TopWheel();
        CHECK.same("nobody governs: only what has no condition", holds(x, "1<2"), false);
        CHECK.fair(x, "rider weight 3 purse 50 party 2 in 5;top 5;bolts 5 8;chest 299");
        CHECK.same("1<2", holds(x, "1<2"), true);
        CHECK.same("2<2", holds(x, "2<2"), false);
        CHECK.same("2>2", holds(x, "2>2"), false);
        CHECK.same("2>1", holds(x, "2>1"), true);
        CHECK.same("cradle", holds(x, "cradle>4 and cradle<6"), true);
        CHECK.same("weight", holds(x, "weight>2 and weight<4"), true);
        CHECK.same("party", holds(x, "party>1 and party<3"), true);
        CHECK.same("bolts", holds(x, "bolts>7 and bolts<9"), true);
        CHECK.same("stop", holds(x, "stop<1"), true);
        CHECK.same("height", holds(x, "height>3 and height<5"), true);
        CHECK.same("chest", holds(x, "chest>1 and chest<3"), true);
        CHECK.same("sums", holds(x, "cradle+weight+party+100<110+1 and 9+100<cradle+weight+party+100"), true);
        CHECK.same("rich", holds(x, "rich"), true);
        CHECK.same("alone", holds(x, "alone"), true);
        CHECK.same("not", holds(x, "not rich"), false);
        CHECK.same("not of a comparison", holds(x, "not 2<1"), true);
        CHECK.same("not not", holds(x, "not not rich"), true);
        CHECK.same("and is nearer than or", holds(x, "rich or rich and not rich"), true);
        CHECK.same("and is nearer than or, behind", holds(x, "not rich and rich or rich"), true);
        CHECK.same("brackets", holds(x, "(rich or rich) and not rich"), false);
        CHECK.same("not is nearer than and", holds(x, "not 2<1 and 2<1"), false);
        CHECK.same("an or of three", holds(x, "2<1 or 3<1 or 4>1"), true);
        CHECK.same("an and of three", holds(x, "2>1 and 3>1 and 4<1"), false);
        CHECK.fair(x, "rider weight 3 purse 49 party 2 in 5");
        CHECK.same("not alone any more", holds(x, "alone"), false);
        CHECK.law(x, "go 2;go 3 if rich;go 4 if not rich;go 5 if not alone;more 9;less 8");
        CHECK.same("the sum of all that hold", x.farther(), 10);
    }

    private static void lawOfRiders() {
        TopWheel x = new TopWheel();
        CHECK.fair(x, "rider weight 1 purse 50 party 0 in 1;rider weight 9 purse 49 party 1 in 1;"
                + "rider weight 9 purse 49 party 1;fare 10");
        CHECK.law(x, "more 7 if rich;more 1;less 5 if weight>8;less 6 if height<3;go 1");
        CHECK.same("owes of 0", x.rider(0, 4), 18);
        CHECK.same("owes of 1", x.rider(1, 4), 6);
        CHECK.same("owes of one who waits", x.rider(2, 4), 0);
        CHECK.same("without a governor: what has no condition", x.farther(), 1);
        CHECK.law(x, "less 30");
        CHECK.same("owes 0 at least", x.rider(0, 4), 0);
    }
}
