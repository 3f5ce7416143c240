/** Promises 12 to 15: ways, mend, wins, odds. */
public final class WouldBeTest {
    public static void main(String[] args) {
        ways();
        next();
        up();
        mend();
        wins();
        odds();
        refusals();
        Check.end("WouldBeTest");
    }

    private static void ways() {
        // how many sum-free paintings of 1 to n there are, by hand for two colours: 2 for 4, none for 5
        Check.due("2;nnnn", Check.board("2;nnnn;....").ways(0), 2);
        Check.due("2;nnnnn", Check.board("2;nnnnn;.....").ways(0), 0);
        Check.due("2;llll", Check.board("2;llll;....").ways(0), 10);
        Check.due("2;ffff", Check.board("2;ffff;....").ways(0), 16);
        Check.due("2;ssss", Check.board("2;ssss;....").ways(0), 16);
        Check.due("2;oooo", Check.board("2;oooo;....").ways(0), 16);
        Check.due("3;ffffffffff", Check.board("3;ffffffffff;..........").ways(0), 59049);
        Check.due("none bare, none bad", Check.board("2;nnnn;abba").ways(0), 1);
        Check.due("none bare, one bad", Check.board("2;nnnn;aabb").ways(0), 0);
        Check.due("one bad among bare ones", Check.board("3;nnnn;aa..").ways(0), 0);
    }

    private static void next() {
        Check.due("of like ones the least", Check.board("2;nnnn;....").ways(1), 10);
        Check.due("none bare", Check.board("2;nnnn;abba").ways(1), SumColours.NONE);
        Check.due("no ways", Check.board("2;nnnnn;.....").ways(1), SumColours.NONE);
        Check.due("the painted ones are not told", Check.board("2;nnnn;a...").ways(1), 21);
        // 2 bars colour 0 for 4, so 4 is 1 in all three ways; 1 and 3 are 0 in two of them
        Check.due("most ways are left", Check.board("2;fffs;.a..").ways(1), 41);
        // 4 is not 0; 1 is 0 in six of 16 ways, 4 is 1 in eight, and 2 in eight
        Check.due("most ways are left, three colours", Check.board("3;fffs;.a..").ways(1), 41);
        Check.due("a greater colour", Check.board("3;fffs;ab.a").ways(1), 31);
    }

    private static void up() {
        Check.due("2;nnnn", Check.board("2;nnnn;....").ways(2), 4);
        Check.due("2;nnnnnnn", Check.board("2;nnnnnnn;.......").ways(2), 4);
        Check.due("2;llllllllll", Check.board("2;llllllllll;..........").ways(2), 8);
        Check.due("3;nnnnnnnnnn", Check.board("3;nnnnnnnnnn;..........").ways(2), 10);
        Check.due("bad at 2", Check.board("2;nnnn;aa..").ways(2), 1);
        Check.due("what is above does not count", Check.board("2;nnnn;a..b").ways(2), 3);
        Check.due("none bare", Check.board("2;nnnn;abba").ways(2), 4);
        SumColours x = Check.board("2;nnnn;....");
        Check.due("at first", x.ways(2), 4);
        x.paint(1, 1);
        x.paint(4, 0);
        Check.due("painted", x.ways(2), 3);
        x.paint(2, 1);
        Check.due("painted again", x.ways(2), 1);
        x.be(2, 2);
        Check.due("2 is free: 3 as 0", x.ways(2), 4);
        x.wipe(2);
        Check.due("2 is bare", x.ways(2), 4);
    }

    private static void mend() {
        Check.due("nothing to mend", Check.board("2;nnnn;....").mend(), 0);
        Check.due("one", Check.board("2;nnnn;aa..").mend(), 1);
        Check.due("two", Check.board("2;nnnn;aaaa").mend(), 2);
        Check.due("two, too", Check.board("2;nnnn;abab").mend(), 2);
        Check.due("those that are bare are not counted", Check.board("2;nnnn;a..b").mend(), 1);
        Check.due("none", Check.board("2;nnnnn;.....").mend(), SumColours.NONE);
        Check.due("none, all painted", Check.board("2;nnnnn;aaaaa").mend(), SumColours.NONE);
        SumColours x = Check.board("3;nnnnnnnnnn;aaaaaaaaaa");
        Check.due("ten of one colour", x.mend(), 5);
        Check.due("mend() tells, it does not paint", x.number(1, 1), 0);
    }

    private static void wins() {
        // 1 as 0, 2 has to be 1, then 3 as 0: 1+3 and 2+2 bar both colours for 4
        SumColours x = Check.board("2;nnnn;....");
        Check.due("three turns", x.wins(0), 1);
        Check.due("by the least colour", x.wins(1), 0);
        Check.due("wins() tells, it does not paint", x.count(2), 4);
        checkWins("none bare", "2;nnnn;abba", SumColours.NONE);
        checkWins("one is bad now", "2;nnff;aa..", SumColours.NONE);
        checkWins("one turn", "2;ffff;aaa.", 0);
        checkWins("two turns", "2;ffff;aa..", SumColours.NONE);
        checkWins("1 has to be 1, then 4 can be none", "2;nnnn;.ab.", 1);
        checkWins("1 has to be 1, then 3 as 1 leaves none for 4", "2;nnnn;.a..", SumColours.NONE);
        checkWins("1+2 and 3+3 bar both colours for 3", "2;flnffn;aa.aab", SumColours.NONE);
        checkWins("6 is loose: 1+2 alone bars 3", "2;flnffl;aa.aab", 1);
        checkWins("the same with a third colour", "3;flnffn;aa.aab", 2);
    }

    private static void checkWins(String say, String text, int colour) {
        SumColours x = Check.board(text);
        Check.due(say + ": wins(0)", x.wins(0), colour == SumColours.NONE ? 0 : 1);
        Check.due(say + ": wins(1)", x.wins(1), colour);
    }

    private static void odds() {
        SumColours x = Check.board("2;llll;....");
        // of ten ways five have number 1 as colour 0
        Check.due("odds(1, 0, 0)", x.odds(1, 0, 0), 1);
        Check.due("odds(1, 0, 1)", x.odds(1, 0, 1), 2);
        SumColours two = Check.board("3;fffs;.a..");
        checkOdds(two, 1, 0, 3, 8);
        checkOdds(two, 1, 1, 5, 16);
        checkOdds(two, 1, 2, 5, 16);
        checkOdds(two, 4, 0, 0, 1);
        checkOdds(two, 4, 1, 1, 2);
        checkOdds(two, 2, 0, 1, 1);
        checkOdds(two, 2, 1, 0, 1);
        SumColours none = Check.board("2;nnnnn;.....");
        Check.due("odds(1, 0, 0), no ways", none.odds(1, 0, 0), 0);
        Check.due("odds(1, 0, 1), no ways", none.odds(1, 0, 1), 1);
        SumColours three = Check.board("3;ffff;....");
        Check.due("odds(3, 2, 0)", three.odds(3, 2, 0), 1);
        Check.due("odds(3, 2, 1)", three.odds(3, 2, 1), 3);
    }

    private static void checkOdds(SumColours x, int number, int colour, int above, int below) {
        Check.due("odds(" + number + ", " + colour + ", 0)", x.odds(number, colour, 0), above);
        Check.due("odds(" + number + ", " + colour + ", 1)", x.odds(number, colour, 1), below);
    }

    private static void refusals() {
        SumColours none = new SumColours();
        SumColours x = Check.board("2;nnnn;....");
        int[] outside = {-1, 3, Integer.MIN_VALUE, Integer.MAX_VALUE};
        for (int what : outside) {
            Check.due("ways(" + what + ")", x.ways(what), SumColours.OUTSIDE);
            Check.due("ways(" + what + ") without a board", none.ways(what), SumColours.OUTSIDE);
            Check.due("wins(" + what + ")", x.wins(what), SumColours.OUTSIDE);
            Check.due("wins(" + what + ") without a board", none.wins(what), SumColours.OUTSIDE);
            Check.due("odds(1, 0, " + what + ")", x.odds(1, 0, what), SumColours.OUTSIDE);
            Check.due("odds(1, " + what + ", 0)", x.odds(1, what, 0), SumColours.OUTSIDE);
        }
        Check.due("wins(2)", x.wins(2), SumColours.OUTSIDE);
        Check.due("odds(1, 0, 2)", x.odds(1, 0, 2), SumColours.OUTSIDE);
        Check.due("odds(1, 2, 0) of two colours", x.odds(1, 2, 0), SumColours.OUTSIDE);
        Check.due("odds(0, 9, 9)", x.odds(0, 9, 9), SumColours.UNKNOWN);
        Check.due("odds(5, 0, 0)", x.odds(5, 0, 0), SumColours.UNKNOWN);
        Check.due("odds() without a board", none.odds(1, 0, 0), SumColours.UNKNOWN);
        Check.due("ways(2) without a board", none.ways(2), SumColours.STATE);
        Check.due("wins(1) without a board", none.wins(1), SumColours.STATE);
        Check.due("mend() without a board", none.mend(), SumColours.STATE);
    }
}
