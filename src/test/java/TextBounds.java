/** Boundary cases of the section Terms: the texts of the fair and of the law, and their first wrong byte. */
final class TextBounds extends Bounds {
    /** As many riders as there may be. */
    private static final String[] EIGHT = {lines(rider(1, 1, 0), 4), lines(rider(1, 1, 0), 4)};

    TextBounds(Check check, Document document) {
        super(check, document);
    }

    @Override
    void run() {
        fair();
        law();
        words();
    }

    // ---- the fair ----

    private void fair() {
        texts();
        fairLines();
        fairLine();
        cradlesOfTheFair();
        in();
        withoutIn();
        boltsOfTheFair();
        chestOfTheFair();
        fairNumbers();
    }

    private void texts() {
        says("THE FAIR is told in texts (at most 12, one behind another)");
        TopWheel x = new TopWheel();
        for (int i = 1; i <= 12; i++) {
            Check.put(x, "fare " + i);
            check.same("text " + i, x.fair(), i);
            check.same("it came behind the one before", x.count(5), i);
        }
        Check.put(x, "fare 13");
        check.thrown("a 13th", UnsupportedOperationException.class, x::fair);
        check.same("12 still", x.count(1), 12);
        check.same("nothing of the 13th", x.count(5), 12);
    }

    private void fairLines() {
        says("LINE { ; LINE }, at most 14:");
        TopWheel x = wheel("top 1");
        check.same("one line", x.count(4), 1);
        check.fair(x, lines("top 2", 13));
        check.same("13 lines", x.count(4), 2);
        check.fair(x, lines("top 2", 13) + ";top 3");
        check.same("14 lines, the last of which counts", x.count(4), 3);
        check.wrongFair(x, lines("top 4", 14) + ";top 5", 84);
        check.wrongFair(x, "top 4 top 5", 6);
        check.wrongFair(x, "top 4;", 6);
        check.wrongFair(x, ";top 4", 0);
        check.wrongFair(x, "top 4;;top 5", 6);
        check.same("nothing of these", x.count(4), 3);
    }

    /** Each line is cut behind each of its words, and each of its words is another. */
    private void fairLine() {
        says("rider weight N purse N party N [ in R ] | bolts R N | fare N | chest N | reach N | wind N | top R.");
        TopWheel x = new TopWheel();
        String rider = "rider weight 1 purse 1 party 1 in 1";
        for (int cut : new int[] {5, 12, 14, 20, 22, 28, 33}) {
            check.wrongFair(x, rider.substring(0, cut), cut);
        }
        for (int cut : new int[] {0, 6, 13, 15, 21, 23, 29, 31}) {
            check.wrongFair(x, rider.substring(0, cut) + "x" + rider.substring(cut), cut);
        }
        for (String one : new String[] {"fare", "chest", "reach", "wind", "top", "bolts", "bolts 1"}) {
            check.wrongFair(x, one, one.length());
            check.wrongFair(x, one + " in", one.length() + 1);
            check.wrongFair(x, one + " 1 1 1", one.startsWith("bolts") ? one.length() + (one.length() > 5 ? 3 : 5) : one.length() + 3);
        }
        check.fair(x, rider + ";bolts 1 2;fare 3;chest 4;reach 5;wind 6;top 7");
        int[] due = {1, 1, NONE, 0, 7, 3, 4, 5, 6, 0, 0, 1, 37};
        for (int what = 0; what < due.length; what++) {
            check.same("count(" + what + ")", x.count(what), due[what]);
        }
    }

    private void cradlesOfTheFair() {
        says("(R: a CRADLE 0 to 7;");
        TopWheel x = wheel("top 7;bolts 7 1;" + rider(1, 1, 0, 7));
        check.same("top 7", x.count(4), 7);
        check.same("bolts 7", x.cradle(7, 0), 1);
        check.same("in 7", x.rider(0, 0), 7);
        check.fair(x, "top 0;bolts 0 2;" + rider(1, 1, 0, 0));
        check.same("top 0", x.count(4), 0);
        check.same("bolts 0", x.cradle(0, 0), 2);
        check.same("in 0", x.rider(1, 0), 0);
        check.wrongFair(x, "top 8", 4);
        check.wrongFair(x, "bolts 8 1", 6);
        check.wrongFair(x, rider(1, 1, 0, 8), 34);
        check.wrongFair(x, rider(1, 1, 0, 255), 34);
    }

    private void in() {
        says("in: one that is not CLOSED and has room, else it is wrong;");
        TopWheel x = wheel("bolts 4 0");
        check.wrongFair(x, rider(1, 1, 0, 4), 34);
        check.wrongFair(x, "bolts 5 0;" + rider(1, 1, 0, 5), 44);
        check.fair(x, "bolts 4 1;" + rider(1, 1, 0, 4));
        check.same("it was opened in the same text", x.rider(0, 0), 4);
        check.fair(x, rider(1, 1, 0, 5) + ";bolts 5 0");
        check.same("it was closed behind", x.rider(1, 0), 5);
        check.wrongFair(x, rider(1, 1, 0, 4) + ";" + rider(1, 1, 0, 4), 70);
        check.fair(x, rider(1, 1, 0, 4));
        check.same("there was room for one more", x.cradle(4, 1), 5);
        check.wrongFair(x, rider(1, 1, 0, 4), 34);
        check.wrongFair(x, lines(rider(1, 1, 0, 6), 3), 106);
    }

    private void withoutIn() {
        says("without: WAITING, the last one;");
        TopWheel x = wheel(rider(1, 1, 0) + ";" + rider(1, 1, 0, 0) + ";" + rider(1, 1, 0));
        check.same("the first", x.rider(0, 7), 0);
        check.same("the last", x.rider(2, 7), 1);
        x.off(1);
        check.fair(x, rider(1, 1, 0));
        check.same("behind one who got off", x.rider(3, 7), 3);
        check.same("that one", x.rider(1, 7), 2);
    }

    private void boltsOfTheFair() {
        says("bolts: 0 to 9 (those who sit in it stay);");
        TopWheel x = wheel(lines(rider(1, 1, 0, 2), 2));
        check.fair(x, "bolts 2 0");
        check.same("0", x.cradle(2, 0), 0);
        check.same("they stay", x.cradle(2, 1), 3);
        check.same("nobody waits", x.count(9), 0);
        check.fair(x, "bolts 2 9");
        check.same("9", x.cradle(2, 0), 9);
        check.wrongFair(x, "bolts 2 10", 8);
    }

    private void chestOfTheFair() {
        says("chest: 0 to 999.)");
        TopWheel x = wheel("chest 999");
        check.same("999", x.count(6), 999);
        check.wrongFair(x, "chest 1000", 6);
        check.fair(x, "chest 0");
        check.same("0", x.count(6), 0);
    }

    private void fairNumbers() {
        says("Numbers are of 1 to 3 digits.\n");
        TopWheel x = wheel("fare 7");
        check.same("one digit", x.count(5), 7);
        check.fair(x, "fare 08");
        check.same("two digits", x.count(5), 8);
        check.fair(x, "fare 009");
        check.same("three digits", x.count(5), 9);
        check.wrongFair(x, "fare 0010", 5);
        check.wrongFair(x, "fare 10000000000000000", 5);
        check.fair(x, "top 000;bolts 007 009;" + "rider weight 001 purse 000 party 003 in 007");
        check.same("everywhere", x.rider(0, 3), 3);
    }

    // ---- the law ----

    private void law() {
        lawLines();
        lawLine();
        conditions();
        sums();
        lawNumbers();
        ofARider();
        hundreds();
        rich();
        alone();
        farther();
        owes();
        noLaw();
    }

    private void lawLines() {
        says("THE LAW (a text, in place of the one before): LINE { ; LINE }, at most 12:");
        TopWheel x = new TopWheel();
        Check.put(x, "go 1");
        check.same("one line", x.law(), 1);
        Check.put(x, lines("go 2", 11));
        check.same("11 lines", x.law(), 11);
        check.same("the one before is gone", x.farther(), 22);
        Check.put(x, lines("go 1", 12));
        check.same("12 lines", x.law(), 12);
        check.same("all of them count", x.farther(), 12);
        check.wrongLaw(x, lines("go 1", 13), 60);
        check.wrongLaw(x, "go 1;", 5);
        check.wrongLaw(x, ";go 1", 0);
        check.wrongLaw(x, "go 1;;go 1", 5);
        check.same("a wrong one is in place of none", x.farther(), 12);
        for (int i = 0; i < 20; i++) {
            check.law(x, "go 3");
        }
        check.same("laws may be told as often as one likes", x.farther(), 3);
        check.same("they are no texts of the fair", x.count(1), 0);
    }

    private void lawLine() {
        says("go N [ if C ] | more N [ if C ] | less N [ if C ].");
        TopWheel x = new TopWheel();
        for (String act : new String[] {"go", "more", "less"}) {
            int n = act.length();
            check.wrongLaw(x, act, n);
            check.wrongLaw(x, act + " rich", n + 1);
            check.wrongLaw(x, act + " if rich", n + 1);
            check.wrongLaw(x, act + " 1 rich", n + 3);
            check.wrongLaw(x, act + " 1 if", n + 5);
            check.wrongLaw(x, act + " 1 if ;", n + 6);
            check.wrongLaw(x, act + " 1 if rich if rich", n + 11);
            check.wrongLaw(x, act + " 1 2", n + 3);
        }
        check.wrongLaw(x, "if rich", 0);
        check.wrongLaw(x, "fare 1", 0);
        check.wrongLaw(x, "1", 0);
        check.same("no law yet", x.count(2), NONE);
    }

    private void conditions() {
        says("C: ALL { or ALL }; ALL: ATOM { and ATOM }; ATOM: not ATOM | ( C ) | rich | alone | SUM < SUM | SUM > SUM.");
        TopWheel x = wheel(rider(1, 50, 0, 0));
        String[] wrong = {"or rich", "and rich", "rich or", "rich and", "rich or and rich", "rich and or rich", "rich alone",
            "rich not", "not", "not or", "not and rich", "(", "()", "(rich", "(rich or)", "rich)", "(rich))", "1", "1<", "<1", "1<<2",
            "1=2", "1<2<3", "1<2>3", "rich<2", "1<rich", "(1)<2", "1<(2)", "not 1", "1 2", "rich,"};
        int[] at = {0, 0, 7, 8, 8, 9, 5, 5, 3, 4, 4, 1, 1, 5, 8, 4, 6, 1, 2, 0, 2, 1, 3, 3, 4, 2, 2, 2, 5, 2, 4};
        for (int i = 0; i < wrong.length; i++) {
            check.wrongLaw(x, "go 1 if " + wrong[i], 8 + at[i]);
        }
        String[] hold = {"1<2 or 1<2 and 2<1", "2<1 and 1<2 or 1<2", "not 2<1 and 1<2", "not(2<1 or 2<1)", "2>1", "not not 1<2",
            "(1<2)", "rich and alone", "2<1 or 2<1 or 1<2", "1<2 and 1<2 and 1<2"};
        String[] fail = {"(1<2 or 1<2) and 2<1", "not 1<2 or 2<1", "1<1", "1>1", "not(1<2)", "not rich", "not alone", "1>2", "not 2>1",
            "2<1 or 2<1 or 2<1", "1<2 and 1<2 and 2<1"};
        for (String c : hold) {
            check.law(x, "go 1 if " + c);
            check.same(c, x.farther(), 1);
        }
        for (String c : fail) {
            check.law(x, "go 1 if " + c);
            check.same(c, x.farther(), 0);
        }
    }

    private void sums() {
        says("SUM: PART { + PART }; PART: NUMBER | cradle | weight | party | bolts | stop | height | chest.");
        TopWheel x = wheel("top 7;bolts 7 8;chest 999;" + rider(6, 50, 3, 7));
        String[] parts = {"0", "5", "999", "cradle", "weight", "party", "bolts", "stop", "height", "chest", "1+2+3", "cradle+weight"};
        int[] worth = {0, 5, 999, 7, 6, 3, 8, 0, 4, 9, 6, 13};
        for (int i = 0; i < parts.length; i++) {
            check.law(x, "go 1 if " + parts[i] + ">" + worth[i] + ";go 2 if " + parts[i] + "<" + worth[i]);
            check.same(parts[i] + " is " + worth[i], x.farther(), 0);
            check.law(x, "go 1 if " + parts[i] + "+1>" + worth[i] + ";go 2 if " + parts[i] + "<" + worth[i] + "+1");
            check.same(parts[i] + " is " + worth[i] + " indeed", x.farther(), 3);
        }
        check.wrongLaw(x, "go 1 if +1<2", 8);
        check.wrongLaw(x, "go 1 if 1+<2", 10);
        check.wrongLaw(x, "go 1 if 1++1<2", 10);
        check.wrongLaw(x, "go 1 if 1+rich<2", 10);
        check.wrongLaw(x, "go 1 if 1<2+", 12);
        check.wrongLaw(x, "go 1 if purse<2", 8);
        check.wrongLaw(x, "go 1 if fare<2", 8);
    }

    private void lawNumbers() {
        says("All numbers are of 1 to 3 digits (N 0 to 30).");
        TopWheel x = wheel(rider(1, 50, 0, 0));
        check.law(x, "go 030");
        check.same("30", x.farther(), 30);
        check.law(x, "go 0");
        check.same("0", x.farther(), 0);
        for (String act : new String[] {"go ", "more ", "less "}) {
            check.law(x, act + "30");
            check.law(x, act + "000");
            check.wrongLaw(x, act + "31", act.length());
            check.wrongLaw(x, act + "0001", act.length());
        }
        check.law(x, "go 1 if 999>998");
        check.same("999", x.farther(), 1);
        check.wrongLaw(x, "go 1 if 1000>1", 8);
        check.wrongLaw(x, "go 1 if 1<0002", 10);
    }

    private void ofARider() {
        says("Of a RIDER in a CRADLE: cradle, bolts, height: its CRADLE's; stop: STOP;");
        TopWheel x = wheel("reach 1;bolts 2 1;bolts 3 9;" + rider(1, 50, 0, 2) + ";" + rider(1, 50, 0, 3) + ";fare 0");
        check.law(x, "more 1 if cradle>2;more 2 if bolts<2;more 4 if height<2;more 8 if stop>1");
        check.same("of the one", x.rider(0, 4), 2);
        check.same("of the other", x.rider(1, 4), 1 + 4);
        x.stops(1);
        check.same("stop 1, higher", x.rider(1, 4), 1);
        x.stops(1);
        check.same("stop 2", x.rider(1, 4), 1 + 8);
    }

    private void hundreds() {
        says("chest: CHEST by 100, rounded down;");
        int[] chests = {0, 99, 100, 199, 200, 999};
        for (int chest : chests) {
            TopWheel x = wheel("chest " + chest + ";fare 0;" + rider(1, 50, 0, 0));
            check.law(x, "more 30 if chest>8;more 5 if chest>0;more 7 if chest>1");
            check.same("chest " + chest, x.rider(0, 4), chest < 100 ? 0 : chest < 200 ? 5 : chest < 900 ? 12 : 42);
        }
    }

    private void rich() {
        says("rich: PURSE is 50 at least;");
        TopWheel x = wheel("fare 0;" + rider(1, 49, 0, 1) + ";" + rider(1, 50, 0, 2) + ";" + rider(1, 51, 0, 3));
        check.law(x, "more 1 if rich");
        check.same("49", x.rider(0, 4), 0);
        check.same("50", x.rider(1, 4), 1);
        check.same("51", x.rider(2, 4), 1);
    }

    private void alone() {
        says("alone: nobody else is in the CRADLE.");
        TopWheel x = wheel("fare 0;" + rider(1, 9, 0, 1) + ";" + rider(1, 9, 0, 2) + ";" + rider(1, 9, 0, 2) + ";" + rider(1, 9, 0));
        check.law(x, "more 1 if alone");
        check.same("alone", x.rider(0, 4), 1);
        check.same("the first of two", x.rider(1, 4), 0);
        check.same("the second of two", x.rider(2, 4), 0);
        x.off(1);
        check.same("the other got off", x.rider(2, 4), 1);
        x.move(0, true);
        check.same("another moved over", x.rider(2, 4), 0);
    }

    private void farther() {
        says("FARTHER: the sum of N of all go LINES that hold for the GOVERNOR (without one: only those without C).");
        TopWheel x = wheel(rider(1, 50, 0, 1) + ";" + rider(1, 49, 0, 1) + ";chest 100");
        check.law(x, "go 1;go 2 if 1<2;go 4 if rich;go 8 if not rich;more 30;less 30;go 16 if not 1<2");
        check.same("without a governor", x.farther(), 1);
        x.bribe(1);
        check.same("of the first in it alone", x.farther(), 7);
        x.off(0);
        check.same("of the second then", x.farther(), 11);
        check.law(x, lines("go 30", 12));
        check.same("the most", x.farther(), 360);
    }

    private void owes() {
        says("OWES of a RIDER: FARE and the sum of N of all more LINES that hold for it less that of all less LINES (0 at least).");
        TopWheel x = wheel("fare 10;" + rider(1, 50, 0, 1) + ";" + rider(1, 49, 0, 2));
        check.law(x, "more 3;more 4 if rich;less 5;less 6 if not rich;go 30");
        check.same("of the rich one", x.rider(0, 4), 12);
        check.same("of the other", x.rider(1, 4), 2);
        check.law(x, "less 9;less 1");
        check.same("just 0", x.rider(0, 4), 0);
        check.law(x, "less 9;less 2");
        check.same("0 at least", x.rider(0, 4), 0);
        check.law(x, "less 30;more 25");
        check.same("less than the fare by all together", x.rider(0, 4), 5);
        check.law(x, lines("more 30", 12));
        check.same("the most", x.rider(0, 4), 370);
    }

    private void noLaw() {
        says("Without a text: FARTHER is 0, OWES is FARE.");
        TopWheel x = wheel(rider(1, 50, 0, 0));
        check.same("farther", x.farther(), 0);
        check.same("owes", x.rider(0, 4), 5);
        x.fare(99);
        check.same("owes 99", x.rider(0, 4), 99);
    }

    // ---- words and the first wrong byte ----

    private void words() {
        wordsGoOn();
        blanks();
        noLine();
        deep();
        firstWrong();
        moreDigits();
        outOfBounds();
        noneThatCanBe();
        wordsThatAreNone();
        seventhDeep();
        tooMany();
        moreMustCome();
        nothingStays();
    }

    private void wordsGoOn() {
        says("Words are as long as a to z go on;");
        TopWheel x = wheel("fare7");
        check.same("a digit ends a word", x.count(5), 7);
        check.fair(x, "rider weight1purse2party3in4");
        check.same("and a word a number", x.rider(0, 0), 4);
        check.wrongFair(x, "farea7", 0);
        check.wrongFair(x, "farez7", 0);
        check.wrongFair(x, "fare`7", 4);
        check.wrongFair(x, "fare{7", 4);
        check.wrongFair(x, "fareA7", 4);
        check.wrongFair(x, "fareZ7", 4);
        check.wrongFair(x, "far e7", 0);
        check.wrongFair(x, "topfare 7", 0);
        check.wrongFair(x, "7fare", 0);
        check.law(x, "go1if(not(rich)or alone)and not 1<2+cradle");
        check.wrongLaw(x, "go 1 if notrich", 8);
        check.wrongLaw(x, "go 1 ifrich", 5);
        check.wrongLaw(x, "go 1 if rich oralone", 13);
    }

    private void blanks() {
        says("between all there may be blanks (32), also ahead and behind.");
        TopWheel x = wheel("   fare   7   ;   top   3   ");
        check.same("fare", x.count(5), 7);
        check.same("top", x.count(4), 3);
        check.law(x, "  go  1  if  (  not  rich  )  and  1  +  2  <  3  ;  go  2  ");
        check.same("law", x.count(2), 2);
        for (int other : new int[] {0, 9, 10, 13, 31, 33, 127, 128, 160, 255}) {
            check.wrongFair(x, "fare" + (char) other + "7", 4);
            check.wrongFair(x, (char) other + "fare 7", 0);
            check.wrongLaw(x, "go 1" + (char) other, 4);
        }
        check.wrongFair(x, "fare 1 1", 7);
        check.wrongFair(x, "to p 1", 0);
    }

    private void noLine() {
        says("A text that is empty, or blanks alone, has no LINE.");
        TopWheel x = wheel("fare 9");
        check.law(x, "go 9");
        for (String empty : new String[] {"", " ", " ".repeat(400)}) {
            Check.put(x, empty);
            int texts = x.count(1);
            check.same("it is a text of the fair", x.fair(), texts + 1);
            check.same("it is right", x.fault(), NONE);
            Check.put(x, empty);
            check.same("no line of the law", x.law(), 0);
            check.same("none is counted", x.count(2), 0);
        }
        check.same("the fare stays", x.count(5), 9);
        check.same("the law is gone", x.farther(), 0);
        check.wrongFair(x, " ; ", 1);
    }

    private void deep() {
        says("( and not within one another at most 6 deep.");
        TopWheel x = wheel(rider(1, 50, 0, 0));
        String[] six = {"((((((rich))))))", "not not not not not not rich", "(not(not(not rich)))", "not(not(not(rich)))",
            "((((((rich)))))) and ((((((rich))))))", "(rich and (((((1<2))))))",
            "not not not not not not rich or ((((((rich))))))"};
        boolean[] holds = {true, true, false, false, true, true, true};
        for (int i = 0; i < six.length; i++) {
            check.law(x, "go 1 if " + six[i]);
            check.same(six[i], x.farther(), holds[i] ? 1 : 0);
        }
        check.law(x, "go 1 if ((((((rich))))));go 1 if ((((((rich))))))");
        check.same("each line begins anew", x.farther(), 2);
        check.wrongLaw(x, "go 1 if (((((((rich)))))))", 14);
    }

    private void firstWrong() {
        says("The first wrong byte: the begin of the first thing that cannot stand there (");
        TopWheel x = new TopWheel();
        check.wrongFair(x, "fare 1;wrong;worse", 7);
        check.wrongFair(x, "fare 100;top 8", 5);
        check.wrongFair(x, "fare ,", 5);
        check.wrongFair(x, "fare /", 5);
        check.wrongFair(x, "fare :", 5);
        check.wrongFair(x, ";".repeat(400), 0);
        check.wrongLaw(x, "go 1 if " + "(".repeat(392), 14);
        check.wrongFair(x, "  ,", 2);
        check.wrongLaw(x, "go 1 if rich ) (", 13);
        check.wrongLaw(x, "go 31 if wrong", 3);
    }

    private void moreDigits() {
        says("a number of more digits, ");
        TopWheel x = new TopWheel();
        check.wrongFair(x, "fare 0001", 5);
        check.wrongFair(x, "  chest  9999 ;top 1", 9);
        check.wrongFair(x, "bolts 1 0001", 8);
        check.wrongLaw(x, "go 0001", 3);
        check.wrongLaw(x, "go 1 if 1<1+0001", 12);
    }

    private void outOfBounds() {
        says("or out of its bounds, ");
        TopWheel x = new TopWheel();
        check.wrongFair(x, "fare 100", 5);
        check.wrongFair(x, "reach 0", 6);
        check.wrongFair(x, "reach 9", 6);
        check.wrongFair(x, "wind 101", 5);
        check.wrongFair(x, "bolts 0 10", 8);
        check.wrongFair(x, rider(0, 0, 0), 13);
        check.wrongFair(x, rider(10, 0, 0), 13);
        check.wrongFair(x, rider(1, 0, 4), 29);
        check.wrongLaw(x, "more 31", 5);
        check.wrongLaw(x, "less 999", 5);
    }

    private void noneThatCanBe() {
        says("or that tells none that can be; ");
        TopWheel x = wheel("bolts 3 0;" + lines(rider(1, 1, 0, 5), 2));
        check.wrongFair(x, "top 8", 4);
        check.wrongFair(x, "bolts 8 5", 6);
        check.wrongFair(x, rider(1, 1, 0, 8), 34);
        check.wrongFair(x, rider(1, 1, 0, 3), 34);
        check.wrongFair(x, rider(1, 1, 0, 5), 34);
    }

    private void wordsThatAreNone() {
        says("a word that is none; ");
        TopWheel x = new TopWheel();
        check.wrongFair(x, "ride weight 1 purse 1 party 1", 0);
        check.wrongFair(x, "riders weight 1 purse 1 party 1", 0);
        check.wrongFair(x, "rider weigh 1 purse 1 party 1", 6);
        check.wrongFair(x, "rider weight 1 party 1 purse 1", 15);
        check.wrongFair(x, "rider weight 1 purse 1 party 1 inn 1", 31);
        check.wrongFair(x, "fare 1 ; go 1", 9);
        check.wrongLaw(x, "goes 1", 0);
        check.wrongLaw(x, "go 1 if poor", 8);
        check.wrongLaw(x, "go 1 if rich xor alone", 13);
    }

    private void seventhDeep() {
        says("the ( or not that is a 7th one deep; ");
        TopWheel x = new TopWheel();
        check.wrongLaw(x, "go 1 if ((((((( rich", 14);
        check.wrongLaw(x, "go 1 if not not not not not not not rich", 32);
        check.wrongLaw(x, "go 1 if ((((((not rich))))))", 14);
        check.wrongLaw(x, "go 1 if not not not not not not (rich)", 32);
        check.wrongLaw(x, "go 1 if not(not(not(not rich)))", 20);
        check.wrongLaw(x, "go 1 if (not(not(not(rich))))", 20);
        check.wrongLaw(x, "go 1 if ((((((rich and not rich))))))", 23);
        check.wrongLaw(x, "go 1 if ((((((rich or (rich)))))))", 22);
        check.wrongLaw(x, "go 1 if ((((((rich)))))) or (((((((rich)))))))", 34);
    }

    private void tooMany() {
        says("of a LINE, a RIDER too many, the first word)");
        TopWheel x = wheel(EIGHT);
        check.wrongFair(x, lines("top 1", 14) + "  ;  top 1", 88);
        check.wrongFair(x, lines("top 1", 14) + ";top 9", 84);
        check.wrongFair(x, lines("top 1", 14) + "; wrong", 85);
        check.wrongFair(x, rider(1, 1, 0), 0);
        check.wrongFair(x, "top 1 ; " + rider(1, 1, 0), 8);
        check.wrongFair(x, "rider", 0);
        check.wrongFair(x, lines("top 1", 13) + ";" + rider(1, 1, 0), 78);
        check.wrongLaw(x, lines("go 1", 12) + " ; go 1", 62);
        check.wrongLaw(x, lines("go 1", 12) + "; wrong", 61);
        TopWheel y = wheel(EIGHT[0]);
        check.wrongFair(y, lines(rider(1, 1, 0), 5), 4 * 31);
        check.same("none of them came", y.count(0), 4);
    }

    private void moreMustCome() {
        says("or the text's length, if more must come.");
        TopWheel x = new TopWheel();
        check.wrongFair(x, "fare", 4);
        check.wrongFair(x, "fare   ", 7);
        check.wrongFair(x, "fare 1;", 7);
        check.wrongFair(x, "fare 1;  ", 9);
        check.wrongFair(x, lines("top 1", 14) + "; ", 85);
        check.wrongFair(x, "rider weight 1 purse 1 party", 28);
        check.wrongFair(x, " ".repeat(396) + "fare", 400);
        check.wrongLaw(x, "go 1 if", 7);
        check.wrongLaw(x, "go 1 if (rich ", 14);
        check.wrongLaw(x, "go 1 if not", 11);
        check.wrongLaw(x, "go 1 if 1+1", 11);
        check.wrongLaw(x, lines("go 1", 12) + ";", 60);
        check.wrongLaw(x, "go 1;" + " ".repeat(395), 400);
    }

    private void nothingStays() {
        says("Of a wrong text nothing stays.");
        String start = "fare 1;chest 100;reach 2;wind 3;top 4;bolts 5 6;" + rider(1, 1, 1, 5) + ";" + rider(1, 1, 1);
        String end = "fare 11;chest 12;reach 3;wind 14;top 5;bolts 5 7;" + rider(2, 2, 2, 5) + ";" + rider(2, 2, 2) + ";wrong";
        TopWheel x = wheel(start);
        check.law(x, "go 1");
        x.fare(2);
        check.wrongFair(x, end, end.length() - 5);
        check.wrongLaw(x, "go 2;more 2;wrong", 12);
        TopWheel twin = wheel(start);
        check.law(twin, "go 1");
        twin.fare(2);
        check.wrongLaw(twin, "go 2;more 2;wrong", 12);
        check.alike("behind wrong texts", View.of(x), View.of(twin));
    }
}
