/** The edges that promises 12 to 15 name, with the terms behind them: WAYS, NEXT, UP, MEND, WINS, ODDS. */
public final class EdgesOfWouldBeTest {
    private static final int NONE = SumColours.NONE;
    private static final int[] FAR = {Integer.MIN_VALUE, -2, -1, 11, 12, 1000, Integer.MAX_VALUE};

    public static void main(String[] args) {
        waysNextAndUp();
        mendAndWins();
        oddsOfANumber();
        Check.end("EdgesOfWouldBeTest");
    }

    private static void waysNextAndUp() {
        String here = "Terms";
        Sentences.test(here, "in how many ways all that are BARE can be PAINTED, the others as they are, so that no"
            + " THREE is BAD", EdgesOfWouldBeTest::theOthersAsTheyAre);
        Sentences.test(here, "(1 or 0, if none is BARE)", EdgesOfWouldBeTest::oneOrNought);
        Sentences.test(here, "so that most WAYS are left", EdgesOfWouldBeTest::mostWaysAreLeft);
        Sentences.test(here, "told as 10 times the NUMBER, and the COLOUR", EdgesOfWouldBeTest::tenTimesTheNumber);
        Sentences.test(here, "of like ones the least; none, if none is BARE, or there are no WAYS.",
            EdgesOfWouldBeTest::leastOrNone);
        Sentences.test(here, "so that no THREE of NUMBERS up to M is BAD", EdgesOfWouldBeTest::upTo);
        Sentences.test(here, "(0: not even 1 can; that cannot be)", EdgesOfWouldBeTest::upIsNeverNought);
        Sentences.test("12", "what = 0 WAYS, 1 NEXT (NONE), 2 UP.", EdgesOfWouldBeTest::threeWhats);
        Sentences.test("12", "OUTSIDE; STATE: no BOARD.", EdgesOfWouldBeTest::waysRefusals);
    }

    private static void mendAndWins() {
        String here = "Terms";
        Sentences.test(here, "how many of the PAINTED ones have to be PAINTED otherwise, at least, so that there are"
            + " WAYS: how many; none.", EdgesOfWouldBeTest::howManyOrNone);
        Sentences.test("13", "MEND; NONE.", EdgesOfWouldBeTest::noneToMend);
        Sentences.test("13", "STATE: no BOARD.", EdgesOfWouldBeTest::mendRefusal);
        Sentences.test(here, "each time the least NUMBER that is BARE, with any COLOUR", EdgesOfWouldBeTest::leastBare);
        Sentences.test(here, "who cannot has lost (also if none is BARE, or one is BAD now)",
            EdgesOfWouldBeTest::whoCannotHasLost);
        Sentences.test(here, "by which COLOUR: the least; none.", EdgesOfWouldBeTest::leastColourThatWins);
        Sentences.test("14", "what = 0 WINS (1, 0), 1 by which COLOUR (NONE).", EdgesOfWouldBeTest::oneAndNought);
        Sentences.test("14", "OUTSIDE; STATE: no BOARD.", EdgesOfWouldBeTest::winsRefusals);
    }

    private static void oddsOfANumber() {
        Sentences.test("Terms", "in how many of the WAYS it has that, of how many, in whole parts.",
            EdgesOfWouldBeTest::ofHowMany);
        Sentences.test("15", "in lowest terms (0 of 1, also if there are no WAYS)", EdgesOfWouldBeTest::lowestTerms);
        Sentences.test("15", "UNKNOWN: number; OUTSIDE: colour (one that there is), what.",
            EdgesOfWouldBeTest::oddsRefusals);
    }

    // ---- ways, next, up

    private static void checkWays(String text, int ways, int next, int up) {
        SumColours x = Check.board(text);
        Check.due("ways(0) of " + text, x.ways(0), ways);
        Check.due("ways(1) of " + text, x.ways(1), next);
        Check.due("ways(2) of " + text, x.ways(2), up);
    }

    private static void theOthersAsTheyAre() {
        Check.due("all are bare", Check.board("2;nnnn;....").ways(0), 2);
        Check.due("one is painted", Check.board("2;nnnn;b...").ways(0), 1);
        Check.due("the greatest is painted", Check.board("2;nnnn;...a").ways(0), 1);
        Check.due("as none can be", Check.board("2;nnnn;a..b").ways(0), 0);
        Check.due("five, two colours", Check.board("2;nnnnn;.....").ways(0), 0);
        Check.due("five, three colours", Check.board("3;nnnnn;.....").ways(0) > 0 ? 1 : 0, 1);
        Check.due("the most that there can be", Check.board("3;ssssssssss;..........").ways(0), 59049);
        Check.due("the fewest that are not none", Check.board("2;nnnn;abb.").ways(0), 1);
        SumColours x = Check.board("2;ffff;....");
        int[] left = {16, 8, 4, 2, 1};
        for (int painted = 0; painted <= 4; painted++) {
            Check.due(painted + " painted", x.ways(0), left[painted]);
            x.paint(painted + 1, painted % 2);
        }
        x.wipe(2);
        Check.due("one wiped", x.ways(0), 2);
        Check.due("ways() paint nothing", x.count(2), 1);
    }

    private static void oneOrNought() {
        checkWays("2;nnnn;abba", 1, NONE, 4);
        checkWays("2;nnnn;aabb", 0, NONE, 1);
        checkWays("2;nnnn;abbb", 0, NONE, 3);
        checkWays("2;oooo;aaaa", 1, NONE, 4);
        checkWays("3;nnnnnnnnnn;aaaaaaaaaa", 0, NONE, 1);
        // one bare: 2+2 bars colour 1, and with 3 as colour 0 the other is barred, too
        checkWays("2;nnnn;abb.", 1, 40, 4);
        checkWays("2;snsn;aba.", 1, 40, 4);
        checkWays("2;nnnn;aba.", 0, NONE, 3);
    }

    private static void mostWaysAreLeft() {
        // 4 is 1 in all of three ways, 1 and 3 are 0 in two of them
        Check.due("a greater number", Check.board("2;fffs;.a..").ways(1), 41);
        // ways 0,1 1,0 1,1 of 1 and 3, for 4 is 0: 1 is 1 in two of three
        Check.due("a greater colour", Check.board("2;fofs;.b.a").ways(1), 11);
        Check.due("the least number of those alike", Check.board("2;fofs;.b..").ways(1), 10);
        Check.due("a third colour", Check.board("3;fffs;aba.").ways(1), 42);
        Check.due("a painted one is in all ways as it is, and not told", Check.board("2;ffff;a...").ways(1), 20);
    }

    private static void tenTimesTheNumber() {
        Check.due("the least", Check.board("2;ffff;....").ways(1), 10);
        Check.due("9", Check.board("2;fffffffff;aaaaaaaa.").ways(1), 90);
        Check.due("10", Check.board("2;ffffffffff;aaaaaaaaa.").ways(1), 100);
        // 5+5 bars colour 0 and 1+9 bars colour 1 for 10
        Check.due("10 and 2, the greatest", Check.board("3;fffffffffs;baaaabbbb.").ways(1), 102);
    }

    private static void leastOrNone() {
        checkWays("2;nnnn;....", 2, 10, 4);
        checkWays("3;ffff;.ab.", 9, 10, 4);
        checkWays("3;ffff;c...", 27, 20, 4);
        checkWays("3;ffff;cab.", 3, 40, 4);
        checkWays("3;fffs;ab.a", 2, 31, 4);
        checkWays("3;ffff;cabc", 1, NONE, 4);
        checkWays("2;nnnnn;.....", 0, NONE, 4);
        checkWays("2;nnnn;aa..", 0, NONE, 1);
        checkWays("2;nnnn;aaaa", 0, NONE, 1);
    }

    private static void upTo() {
        checkWays("2;nnnnn;.....", 0, NONE, 4);
        checkWays("2;nnnnnnnnnn;..........", 0, NONE, 4);
        checkWays("3;nnnnnnnnnn;..........", 300, 10, 10);
        Check.due("bad above M does not count", Check.board("2;nnnn;a..b").ways(2), 3);
        Check.due("bad at M does", Check.board("2;nnnn;.abb").ways(2), 3);
        Check.due("nothing is bad", Check.board("2;nnnn;.aab").ways(2), 4);
        Check.due("5+5=10 is bad", Check.board("2;nffffffffn;a...b...ab").ways(2), 9);
        Check.due("10 is loose", Check.board("2;nffffffffl;a...b...ab").ways(2), 10);
        Check.due("what is behind a bad one does not help", Check.board("2;nnff;aaaa").ways(2), 1);
        SumColours x = Check.board("2;nnnn;....");
        Check.due("all bare", x.ways(2), 4);
        x.paint(2, 0);
        x.paint(1, 0);
        Check.due("it goes down", x.ways(2), 1);
        x.be(2, 1);
        Check.due("it goes up", x.ways(2), 4);
    }

    private static void upIsNeverNought() {
        int least = 99;
        for (int one = 0; one < 25 * 81; one++) {
            String kinds = "" + "nlfso".charAt(one / 81 / 5) + "nlfso".charAt(one / 81 % 5) + "nn";
            String signs = "";
            for (int rest = one % 81, place = 0; place < 4; place++, rest /= 3) {
                signs += ".ab".charAt(rest % 3);
            }
            int up = Check.board("2;" + kinds + ";" + signs).ways(2);
            least = Math.min(least, up);
        }
        Check.due("the least of all of them", least, 1);
        Check.due("1 is bad with 2", Check.board("2;nnnn;bbbb").ways(2), 1);
    }

    private static void threeWhats() {
        SumColours x = Check.board("3;nnnn;.b..");
        Model model = new Model();
        for (char letter : "3;nnnn;.b..".toCharArray()) {
            model.letter(letter);
        }
        model.board();
        for (int what = -3; what <= 6; what++) {
            boolean is = what >= 0 && what <= 2;
            Check.due("ways(" + what + ")", x.ways(what), is ? model.ways(what) : SumColours.OUTSIDE);
        }
    }

    private static void waysRefusals() {
        SumColours none = new SumColours();
        SumColours x = Check.board("2;nnnn;....");
        for (int far : FAR) {
            Check.due("ways(" + far + ")", x.ways(far), SumColours.OUTSIDE);
            Check.due("ways(" + far + ") without a board", none.ways(far), SumColours.OUTSIDE);
        }
        for (int what = -1; what <= 3; what++) {
            int due = what < 0 || what > 2 ? SumColours.OUTSIDE : SumColours.STATE;
            Check.due("ways(" + what + ") without a board", none.ways(what), due);
        }
    }

    // ---- mend, wins

    private static void howManyOrNone() {
        Check.due("there are ways", Check.board("2;nnnn;....").mend(), 0);
        Check.due("none is bare, and none bad", Check.board("2;nnnn;abba").mend(), 0);
        Check.due("not bad now, but no ways", Check.board("2;nnnn;a..b").mend(), 1);
        Check.due("one of two", Check.board("2;nnnn;aa..").mend(), 1);
        Check.due("two of four", Check.board("2;nnnn;aaaa").mend(), 2);
        Check.due("two of four, too", Check.board("2;nnnn;abab").mend(), 2);
        Check.due("those that are bare cost nothing", Check.board("3;nnnn;aa..").mend(), 1);
        Check.due("five of ten", Check.board("3;nnnnnnnnnn;aaaaaaaaaa").mend(), 5);
        SumColours x = Check.board("2;nnnn;aaaa");
        x.mend();
        Check.due("mend() paints nothing", x.count(3), 4);
        x.paint(2, 1);
        Check.due("one was painted otherwise", x.mend(), 1);
        x.paint(3, 1);
        Check.due("both were", x.mend(), 0);
    }

    private static void noneToMend() {
        Check.due("five, two colours, all bare", Check.board("2;nnnnn;.....").mend(), NONE);
        Check.due("five, two colours, all painted", Check.board("2;nnnnn;abbab").mend(), NONE);
        Check.due("the fifth is shy, and minds", Check.board("2;nnnns;abbab").mend(), NONE);
        Check.due("the fifth is loose, and minds two unlike", Check.board("2;nnnnl;abbab").mend(), NONE);
        Check.due("the fifth is free", Check.board("2;nnnnf;abbab").mend(), 0);
        Check.due("the first is shy", Check.board("2;snnnn;aaaaa").mend() > 0 ? 1 : 0, 1);
        Check.due("five, three colours", Check.board("3;nnnnn;abbac").mend(), 0);
    }

    private static void mendRefusal() {
        SumColours x = new SumColours();
        Check.due("no board", x.mend(), SumColours.STATE);
        Check.type(x, "2;nnnn;....");
        Check.due("no board yet", x.mend(), SumColours.STATE);
        x.board();
        Check.due("a board", x.mend(), 0);
    }

    private static void checkWins(String say, String text, int colour) {
        SumColours x = Check.board(text);
        Check.due(say + ": wins(0) of " + text, x.wins(0), colour == NONE ? 0 : 1);
        Check.due(say + ": wins(1) of " + text, x.wins(1), colour);
    }

    private static void leastBare() {
        // 2+2 bars colour 1 for 4; with 3 as 0 the other is barred, too; were 4 first, it would take two turns
        checkWins("3 comes before 4", "2;fffs;ab..", 0);
        checkWins("3 has to be 1, then 4 can be 1", "2;flns;aa..", NONE);
        checkWins("3 has to be 1, and 4 is", "2;flns;aa.b", 1);
        checkWins("a greater one that is painted bars colour 0", "2;ffns;ab.a", 1);
        checkWins("a greater one bars both colours", "2;flnffn;aa.aab", NONE);
        checkWins("any colour of three", "3;flnffn;aa.aab", 2);
        // 3 as 0 leaves 1 for 4, which was thought of then; 3 as 1 leaves none
        checkWins("what was thought of is bare again", "2;nnnn;ba..", 1);
        SumColours x = Check.board("2;ffff;.a..");
        x.wins(0);
        Check.due("wins() paints nothing", x.count(2), 3);
    }

    private static void whoCannotHasLost() {
        checkWins("none is bare", "2;ffff;aaaa", NONE);
        checkWins("one is bare", "2;ffff;aaa.", 0);
        checkWins("two are", "2;ffff;aa..", NONE);
        checkWins("ten are", "2;ffffffffff;..........", NONE);
        checkWins("nine are", "2;fffffffff;.........", 0);
        checkWins("one is bad now", "2;nnfff;aa...", NONE);
        checkWins("none is bad now", "2;nlfff;aa...", 0);
        checkWins("who is next cannot", "2;fffs;aba.", NONE);
        checkWins("who is next can", "3;fffs;aba.", 2);
        checkWins("none is bare, and one bad", "2;nnnn;aaaa", NONE);
    }

    private static void leastColourThatWins() {
        checkWins("each wins", "3;ffff;bbb.", 0);
        checkWins("0 and 1 are barred", "3;fffs;bab.", 2);
        checkWins("1 is barred", "3;fffs;abc.", 0);
        checkWins("0 is barred", "3;fffs;bac.", 1);
        checkWins("none wins", "3;ffff;bb..", NONE);
    }

    private static void oneAndNought() {
        SumColours x = Check.board("3;fffs;aba.");
        Check.due("wins(0), won", x.wins(0), 1);
        Check.due("wins(1), won", x.wins(1), 2);
        x.paint(4, 2);
        Check.due("wins(0), lost", x.wins(0), 0);
        Check.due("wins(1), lost", x.wins(1), NONE);
    }

    private static void winsRefusals() {
        SumColours none = new SumColours();
        SumColours x = Check.board("2;nnnn;....");
        int[] first = {1, 0};
        for (int what = -3; what <= 4; what++) {
            boolean is = what == 0 || what == 1;
            Check.due("wins(" + what + ")", x.wins(what), is ? first[what] : SumColours.OUTSIDE);
            Check.due("wins(" + what + ") without a board", none.wins(what), is ? SumColours.STATE : SumColours.OUTSIDE);
        }
        for (int far : FAR) {
            Check.due("wins(" + far + ")", x.wins(far), SumColours.OUTSIDE);
            Check.due("wins(" + far + ") without a board", none.wins(far), SumColours.OUTSIDE);
        }
    }

    // ---- odds

    private static void checkOdds(String text, int number, int colour, int above, int below) {
        SumColours x = Check.board(text);
        String of = "(" + number + ", " + colour + ") of " + text;
        Check.due("odds, above " + of, x.odds(number, colour, 0), above);
        Check.due("odds, below " + of, x.odds(number, colour, 1), below);
    }

    private static void ofHowMany() {
        // 4 is 1 or 2; 1 and 3 are anything, but not both what 4 is: 16 ways
        checkOdds("3;fffs;.a..", 1, 0, 3, 8);
        checkOdds("3;fffs;.a..", 1, 1, 5, 16);
        checkOdds("3;fffs;.a..", 3, 2, 5, 16);
        checkOdds("3;fffs;.a..", 4, 1, 1, 2);
        checkOdds("3;fffs;.a..", 4, 0, 0, 1);
        checkOdds("2;fffs;.a..", 1, 0, 2, 3);
        checkOdds("2;fffs;.a..", 1, 1, 1, 3);
    }

    private static void lowestTerms() {
        checkOdds("2;nnnn;....", 1, 0, 1, 2);
        checkOdds("3;ffffffffff;..........", 10, 2, 1, 3);
        checkOdds("2;ffff;a...", 1, 0, 1, 1);
        checkOdds("2;ffff;a...", 1, 1, 0, 1);
        checkOdds("2;ffff;abab", 4, 1, 1, 1);
        checkOdds("2;ffff;abab", 4, 0, 0, 1);
        checkOdds("2;nnnnn;.....", 1, 0, 0, 1);
        checkOdds("2;nnnn;aa..", 1, 0, 0, 1);
        checkOdds("2;nnnn;aa..", 1, 1, 0, 1);
        checkOdds("2;nnnn;aaaa", 4, 0, 0, 1);
    }

    private static void oddsRefusals() {
        for (int colours = 2; colours <= 3; colours++) {
            SumColours x = Check.board(colours + ";ffff;aaaa");
            for (int number = -1; number <= 6; number++) {
                for (int colour = -2; colour <= 4; colour++) {
                    for (int what = -2; what <= 3; what++) {
                        int due = what == 1 || colour == 0 ? 1 : 0;
                        if (colour < 0 || colour >= colours || what < 0 || what > 1) due = SumColours.OUTSIDE;
                        if (number < 1 || number > 4) due = SumColours.UNKNOWN;
                        String call = "odds(" + number + ", " + colour + ", " + what + ") of " + colours;
                        Check.due(call, x.odds(number, colour, what), due);
                    }
                }
            }
        }
        SumColours x = Check.board("2;nnnn;....");
        for (int far : FAR) {
            Check.due("odds(" + far + ", 0, 0)", x.odds(far, 0, 0), SumColours.UNKNOWN);
            Check.due("odds(1, " + far + ", 0)", x.odds(1, far, 0), SumColours.OUTSIDE);
            Check.due("odds(1, 0, " + far + ")", x.odds(1, 0, far), SumColours.OUTSIDE);
        }
        Check.due("no board", new SumColours().odds(1, 0, 0), SumColours.UNKNOWN);
    }
}
