/** Promises 6 to 8: number, as, way. */
public final class NumbersTest {
    public static void main(String[] args) {
        kindAndColour();
        sure();
        sortsAndAsk();
        badThreesOfANumber();
        badThreesByKind();
        numberRefusals();
        as();
        way();
        wayGoesByTheColourOfTheLeastNumber();
        Check.end("NumbersTest");
    }

    private static void kindAndColour() {
        SumColours x = Check.board("3;nlfso;.abc.");
        int[] tints = {-1, 0, 1, 2, -1};
        for (int number = 1; number <= 5; number++) {
            Check.due("number(" + number + ", 0)", x.number(number, 0), number - 1);
            Check.due("number(" + number + ", 1)", x.number(number, 1), tints[number - 1]);
        }
    }

    private static void sure() {
        SumColours x = Check.board("2;nnnn;....");
        Check.due("sure of 1, two ways", x.number(1, 2), SumColours.NONE);
        x.paint(4, 1);
        int[] sure = {1, 0, 0, 1};
        for (int number = 1; number <= 4; number++) {
            Check.due("sure of " + number, x.number(number, 2), sure[number - 1]);
        }
        x.paint(1, 0);
        Check.due("sure of 1, no ways", x.number(1, 2), SumColours.NONE);
        Check.due("sure of a bare one, no ways", x.number(2, 2), SumColours.NONE);
    }

    private static void sortsAndAsk() {
        SumColours x = Check.board("2;nnnn;....");
        Check.due("nothing seen: sorts", x.number(2, 3), 31);
        Check.due("nothing seen: ask", x.number(2, 4), 0);
        x.see(2, 0, true);
        Check.due("0 could: sorts", x.number(2, 3), 11);
        Check.due("0 could: ask", x.number(2, 4), 1);
        x.see(2, 1, true);
        Check.due("1 could, too: sorts", x.number(2, 3), 9);
        Check.due("1 could, too: ask", x.number(2, 4), 2);
        x.see(2, 2, true);
        Check.due("one sort", x.number(2, 3), 1);
        Check.due("one sort: ask the least", x.number(2, 4), 0);
        x.see(2, 2, false);
        Check.due("no sort", x.number(2, 3), 0);
        Check.due("no sort: ask", x.number(2, 4), SumColours.NONE);
        Check.due("of another number nothing is seen", x.number(3, 3), 31);
        x.be(2, 4);
        Check.due("sorts are by what is seen, not by the kind", x.number(2, 3), 0);
    }

    private static void badThreesOfANumber() {
        SumColours x = Check.board("2;nnnnnn;aaaaaa");
        // 1+1 1+2 1+3 1+4 1+5; 1+1 1+2 2+2 2+3 2+4; 1+2 1+3 2+3 3+3 of which 3 is once in 3+3; and on
        int[] bad = {5, 5, 4, 4, 3, 3};
        for (int number = 1; number <= 6; number++) {
            Check.due("number(" + number + ", 5)", x.number(number, 5), bad[number - 1]);
        }
        x.wipe(3);
        int[] then = {3, 3, 0, 3, 2, 2};
        for (int number = 1; number <= 6; number++) {
            Check.due("3 is bare: number(" + number + ", 5)", x.number(number, 5), then[number - 1]);
        }
    }

    private static void badThreesByKind() {
        // of each kind of 2: is 1+1=2 bad, is 2+1=3 bad, is 2+2=4 bad
        int[] asTwice = {1, 0, 0, 1, 0};
        int[] asPart = {1, 1, 1, 0, 0};
        // of each kind of 3: is 1+2=3 bad
        int[] asSumOfUnlike = {1, 1, 0, 1, 0};
        for (int kind = 0; kind < 5; kind++) {
            char sign = "nlfso".charAt(kind);
            Check.due("twice one, " + sign, Check.board("2;n" + sign + "nn;aabb").number(2, 5), asTwice[kind]);
            Check.due("part of 3, " + sign, Check.board("2;f" + sign + "nn;aaab").number(3, 5), asPart[kind]);
            Check.due("part of 4, " + sign, Check.board("2;f" + sign + "nn;baba").number(4, 5), asPart[kind]);
            Check.due("sum, " + sign, Check.board("2;ff" + sign + "n;aaab").number(3, 5), asSumOfUnlike[kind]);
        }
    }

    private static void numberRefusals() {
        SumColours x = Check.board("2;nnnn;....");
        int[] unknown = {0, -1, 5, 11, Integer.MIN_VALUE, Integer.MAX_VALUE};
        for (int number : unknown) {
            Check.due("number(" + number + ", 0)", x.number(number, 0), SumColours.UNKNOWN);
            Check.due("number(" + number + ", 9)", x.number(number, 9), SumColours.UNKNOWN);
        }
        int[] outside = {-1, 6, Integer.MIN_VALUE, Integer.MAX_VALUE};
        for (int what : outside) {
            Check.due("number(1, " + what + ")", x.number(1, what), SumColours.OUTSIDE);
        }
        Check.due("number() without a board", new SumColours().number(1, 9), SumColours.UNKNOWN);
    }

    private static void as() {
        SumColours x = Check.board("2;nlfso;.....");
        for (int number = 1; number <= 5; number++) {
            for (int kind = 0; kind < 5; kind++) {
                boolean isSuch = kind == 0 || kind == number - 1 || (number == 5 && kind == 3);
                Check.due("as(" + number + ", " + kind + ")", x.as(number, kind), isSuch ? number : SumColours.NONE);
            }
        }
        Check.due("as(0, 0)", x.as(0, 0), SumColours.UNKNOWN);
        Check.due("as(6, 9)", x.as(6, 9), SumColours.UNKNOWN);
        Check.due("as(1, 5)", x.as(1, 5), SumColours.OUTSIDE);
        Check.due("as(1, -1)", x.as(1, -1), SumColours.OUTSIDE);
        Check.due("as() without a board", new SumColours().as(1, 0), SumColours.UNKNOWN);
        x.be(1, 4);
        Check.due("as() of another kind", x.as(1, 3), 1);
    }

    private static void way() {
        SumColours x = Check.board("2;nnnn;....");
        int[][] ways = {{0, 1, 1, 0}, {1, 0, 0, 1}};
        for (int way = 0; way < 2; way++) {
            for (int number = 1; number <= 4; number++) {
                Check.due("way(" + way + ", " + number + ")", x.way(way, number), ways[way][number - 1]);
            }
        }
        int[] unknown = {-1, 2, Integer.MIN_VALUE, Integer.MAX_VALUE};
        for (int way : unknown) {
            Check.due("way(" + way + ", 1)", x.way(way, 1), SumColours.UNKNOWN);
        }
        Check.due("way(0, 0)", x.way(0, 0), SumColours.UNKNOWN);
        Check.due("way(0, 5)", x.way(0, 5), SumColours.UNKNOWN);
        x.paint(1, 1);
        Check.due("the only way left", x.way(0, 2), 0);
        Check.due("one beyond it", x.way(1, 2), SumColours.UNKNOWN);
        Check.due("way() tells, it does not paint", x.number(2, 1), SumColours.NONE);
        Check.due("way() without a board", new SumColours().way(0, 1), SumColours.UNKNOWN);
        SumColours all = Check.board("2;ffff;abba");
        Check.due("way() with none bare", all.way(0, 3), 1);
        Check.due("way(1) with none bare", all.way(1, 3), SumColours.UNKNOWN);
    }

    private static void wayGoesByTheColourOfTheLeastNumber() {
        SumColours x = Check.board("3;ffff;..b.");
        for (int way = 0; way < 27; way++) {
            Check.due("number 1 in way " + way, x.way(way, 1), way / 9);
            Check.due("number 2 in way " + way, x.way(way, 2), way / 3 % 3);
            Check.due("number 3 in way " + way, x.way(way, 3), 1);
            Check.due("number 4 in way " + way, x.way(way, 4), way % 3);
        }
    }
}
