/** The edges that promises 16 to 18 name, with the terms behind them: SEEN, PAINTINGS, DRAWS. */
public final class EdgesOfSeenTest {
    private static final int[] FAR = {Integer.MIN_VALUE, -2, -1, 11, 12, 1000, Integer.MAX_VALUE};
    private static final int GREATEST = Integer.MAX_VALUE;

    public static void main(String[] args) {
        seen();
        paintings();
        Check.end("EdgesOfSeenTest");
    }

    private static void seen() {
        Sentences.test("Terms", "SEEN (6 at most)", EdgesOfSeenTest::sixAtMost);
        Sentences.test("Terms", "0 as the sum of two unlike ones, 1 as twice one, 2 as a PART.", EdgesOfSeenTest::roles);
        Sentences.test("16", "It is SEEN: how much is.", EdgesOfSeenTest::howMuchIs);
        Sentences.test("16", "UNKNOWN: number; OUTSIDE: what (0 to 2)", EdgesOfSeenTest::seeRefusals);
        Sentences.test("16", "FULL.", EdgesOfSeenTest::full);
        Sentences.test("17", "Nothing is SEEN any more: how much was.", EdgesOfSeenTest::howMuchWas);
    }

    private static void paintings() {
        Sentences.test("Terms", "all that are BARE are PAINTED, from the least one on, each with a COLOUR by a DRAW of"
            + " how many there are", EdgesOfSeenTest::fromTheLeastOn);
        Sentences.test("Terms", "how often no THREE is BAD; how many are BAD, in all.", EdgesOfSeenTest::inAll);
        Sentences.test("Terms", "the next SEED each time: 1103515245 times it and 12345, its rest by 2 to the 31",
            EdgesOfSeenTest::restByTwoToThe31);
        Sentences.test("Terms", "then that by 65536 (rounded down), its rest.", EdgesOfSeenTest::roundedDown);
        Sentences.test("Terms", "PAINTINGS by a SEED, as they would be", EdgesOfSeenTest::asTheyWouldBe);
        Sentences.test("18", "what = 0 how often, 1 how many, 2 the SEED then.", EdgesOfSeenTest::theSeedThen);
        Sentences.test("18", "OUTSIDE: times (1 to 40)", EdgesOfSeenTest::times);
        Sentences.test("18", "seed (0 at least), what", EdgesOfSeenTest::seedAndWhat);
        Sentences.test("18", "STATE: no BOARD.", EdgesOfSeenTest::noBoard);
    }

    // ---- what is seen

    private static SumColours seenTimes(int times) {
        SumColours x = Check.board("2;nnnnn;.....");
        for (int time = 1; time <= times; time++) {
            Check.due("see() " + time, x.see(1 + time % 5, time % 3, time % 2 == 0), time);
        }
        return x;
    }

    private static void sixAtMost() {
        SumColours five = seenTimes(5);
        Check.due("the sixth", five.see(1, 0, true), 6);
        Check.due("the seventh", five.see(1, 0, true), SumColours.FULL);
        Check.due("count(6)", five.count(6), 6);
        Check.due("of all numbers, not of each", seenTimes(6).see(5, 2, true), SumColours.FULL);
    }

    private static void roles() {
        // what is left, if of each role alone it is seen that it could, or could not
        int[] could = {11, 9, 7};
        for (int what = 0; what <= 2; what++) {
            SumColours yes = Check.board("2;nnnn;....");
            yes.see(1, what, true);
            Check.due("sorts, " + what + " could", yes.number(1, 3), could[what]);
            SumColours no = Check.board("2;nnnn;....");
            no.see(4, what, false);
            Check.due("sorts, " + what + " could not", no.number(4, 3), 31 - could[what]);
        }
    }

    private static void howMuchIs() {
        SumColours x = Check.board("2;nnnn;....");
        Check.due("nothing", x.count(6), 0);
        Check.due("the first", x.see(1, 0, true), 1);
        Check.due("the same again is one more", x.see(1, 0, true), 2);
        Check.due("its contrary is one more", x.see(1, 0, false), 3);
        Check.due("of another number", x.see(4, 2, false), 4);
        Check.due("count(6)", x.count(6), 4);
        Check.due("nothing fits what was seen of 1", x.number(1, 3), 0);
        Check.due("of 2 nothing was seen", x.number(2, 3), 31);
        Check.due("no changes", x.count(5), 0);
    }

    private static void seeRefusals() {
        SumColours x = Check.board("2;nnnn;....");
        for (int number = -2; number <= 7; number++) {
            for (int what = -3; what <= 5; what++) {
                int due = what < 0 || what > 2 ? SumColours.OUTSIDE : 1;
                if (number < 1 || number > 4) due = SumColours.UNKNOWN;
                Check.due("see(" + number + ", " + what + ", true)", x.see(number, what, true), due);
                Check.due("forget() then", x.forget(), due == 1 ? 1 : 0);
            }
        }
        for (int far : FAR) {
            Check.due("see(" + far + ", 0, false)", x.see(far, 0, false), SumColours.UNKNOWN);
            Check.due("see(1, " + far + ", false)", x.see(1, far, false), SumColours.OUTSIDE);
        }
        Check.due("nothing is seen", x.count(6), 0);
        Check.due("without a board", new SumColours().see(1, 0, true), SumColours.UNKNOWN);
    }

    private static void full() {
        SumColours x = seenTimes(6);
        int sorts = x.number(1, 3);
        Check.due("the seventh", x.see(1, 2, true), SumColours.FULL);
        Check.due("its contrary", x.see(1, 2, false), SumColours.FULL);
        Check.due("sorts stay", x.number(1, 3), sorts);
        Check.due("OUTSIDE first", x.see(1, 3, true), SumColours.OUTSIDE);
        Check.due("UNKNOWN first", x.see(6, 3, true), SumColours.UNKNOWN);
        Check.due("image() of six", x.image(), 0);
        x.forget();
        Check.due("after forget()", x.see(1, 0, true), 1);
        x.restore();
        Check.due("after restore() of six", x.see(1, 0, true), SumColours.FULL);
        Check.type(x, "2;nnnn;....");
        x.board();
        Check.due("after board()", x.see(1, 0, true), 1);
    }

    private static void howMuchWas() {
        for (int times = 0; times <= 6; times++) {
            SumColours x = seenTimes(times);
            Check.due("forget() of " + times, x.forget(), times);
            Check.due("count(6)", x.count(6), 0);
            Check.due("forget() again", x.forget(), 0);
            for (int number = 1; number <= 5; number++) {
                Check.due("sorts of " + number, x.number(number, 3), 31);
            }
            Check.due("see() then", x.see(1, 2, false), 1);
            Check.due("sorts by that alone", x.number(1, 3), 24);
        }
        Check.due("without a board", new SumColours().forget(), 0);
    }

    // ---- paintings by a seed

    /** Which colour number 4 is drawn by a seed: one board for each, on which that alone is bad (2 is shy, so no part). */
    private static int drawn(int colours, int seed) {
        String[] boards = {";nsnn;aba.", ";nsnn;bab.", ";nsnn;cac."};
        int found = SumColours.NONE;
        for (int colour = 0; colour < colours; colour++) {
            SumColours x = new SumColours();
            Check.type(x, colours + boards[colour]);
            x.board();
            if (x.paintings(1, seed, 1) == 1 && x.paintings(1, seed, 0) == 0) {
                found = colour;
            }
        }
        return found;
    }

    private static void fromTheLeastOn() {
        // from the seed 1 the draws are 16838, 5758, 10113, 17515: by 2 aabb, by 3 cbab
        Check.due("aabb: 1+1 is bad", Check.board("2;nnnn;....").paintings(1, 1, 1), 1);
        Check.due("aabb, 2 is loose", Check.board("2;nlnn;....").paintings(1, 1, 1), 0);
        Check.due("cbab: 2+2 is bad", Check.board("3;nnnn;....").paintings(1, 1, 1), 1);
        Check.due("cbab, 4 is loose", Check.board("3;nnnl;....").paintings(1, 1, 1), 0);
        Check.due("1 is painted, acba: none is bad", Check.board("3;nnnn;a...").paintings(1, 1, 0), 1);
        Check.due("1 is painted: three draws", Check.board("3;nnnn;a...").paintings(1, 1, 2), seedBehind(1, 3));
        Check.due("the painted ones stay", Check.board("2;nnnn;aa..").paintings(40, 5, 0), 0);
        Check.due("one time goes on from the other", Check.board("2;nnnn;abb.").paintings(3, 1, 1), 1);
        Check.due("so often no three is bad", Check.board("2;nnnn;abb.").paintings(3, 1, 0), 2);
    }

    private static void inAll() {
        SumColours all = Check.board("2;nnnnnnnnnn;aaaaaaaaaa");
        Check.due("all bad, once", all.paintings(1, 3, 1), 25);
        Check.due("all bad, forty times", all.paintings(40, 3, 1), 1000);
        Check.due("none without", all.paintings(40, 3, 0), 0);
        SumColours none = Check.board("2;nnnn;abba");
        Check.due("none bad", none.paintings(40, 3, 1), 0);
        Check.due("all without, once", none.paintings(1, 3, 0), 1);
        Check.due("all without, forty times", none.paintings(40, 3, 0), 40);
        SumColours some = Check.board("3;nsnn;aba.");
        for (int times = 1; times <= 40; times++) {
            int both = some.paintings(times, 17, 0) + some.paintings(times, 17, 1);
            Check.due("at most one can be bad: both of " + times, both, times);
        }
    }

    private static long seedBehind(long seed, int draws) {
        long latest = seed;
        for (int draw = 0; draw < draws; draw++) {
            latest = (1103515245L * latest + 12345L) % 2147483648L;
        }
        return latest;
    }

    private static void restByTwoToThe31() {
        SumColours x = Check.board("2;nnnn;abb.");
        Check.due("no rest to take", x.paintings(1, 0, 2), 12345);
        Check.due("the greatest with no rest to take", x.paintings(1, 1, 2), 1103527590);
        Check.due("the least with a rest", x.paintings(1, 2, 2), 59559187);
        Check.due("a rest of nothing", x.paintings(1, 2088216195, 2), 0);
        Check.due("a rest of 1", x.paintings(1, 1798410728, 2), 1);
        Check.due("the greatest rest", x.paintings(1, 230538014, 2), GREATEST);
        Check.due("the rest of the greatest", x.paintings(1, GREATEST, 2), 1043980748);
        Check.due("that of a half", x.paintings(1, 1014474371, 2), 1 << 30);
        Check.due("that of a half, less one", x.paintings(1, 1304279838, 2), (1 << 30) - 1);
        SumColours ten = Check.board("3;ffffffffff;..........");
        Check.due("400 draws", ten.paintings(40, GREATEST, 2), seedBehind(GREATEST, 400));
    }

    private static void roundedDown() {
        // seeds behind which the next is 0, 65535, 65536, 131071, 131072, 196607, 196608, 2^31 - 65537, 2^31 - 1
        int[] seeds = {
            2088216195, 2032319262, 1742513795, 1686616862, 1396811395, 1340914462, 1051108995, 576240414, 230538014
        };
        int[] byTwo = {0, 0, 1, 1, 0, 0, 1, 0, 1};
        int[] byThree = {0, 0, 1, 1, 2, 2, 0, 0, 1};
        for (int place = 0; place < seeds.length; place++) {
            Check.due("of two, seed " + seeds[place], drawn(2, seeds[place]), byTwo[place]);
            Check.due("of three, seed " + seeds[place], drawn(3, seeds[place]), byThree[place]);
        }
    }

    private static void asTheyWouldBe() {
        SumColours x = Check.board("3;nnnn;.b..");
        x.see(1, 1, true);
        long before = x.digest();
        int first = x.paintings(40, 8, 1);
        Check.due("nothing is painted", x.digest(), before);
        Check.due("the same again", x.paintings(40, 8, 1), first);
        Check.due("no changes", x.count(5), 0);
        Check.due("those that were bare are", x.count(2), 3);
    }

    private static void theSeedThen() {
        Check.due("none is bare, once", Check.board("2;nnnn;aaaa").paintings(1, 77, 2), 77);
        Check.due("none is bare, forty times", Check.board("2;nnnn;aaaa").paintings(40, GREATEST, 2), GREATEST);
        Check.due("one is bare, once", Check.board("2;nnnn;aaa.").paintings(1, 77, 2), seedBehind(77, 1));
        Check.due("one is bare, forty times", Check.board("2;nnnn;.aaa").paintings(40, 77, 2), seedBehind(77, 40));
        Check.due("ten are bare, twice", Check.board("2;nnnnnnnnnn;..........").paintings(2, 77, 2), seedBehind(77, 20));
    }

    private static void times() {
        SumColours x = Check.board("2;nnnn;abba");
        for (int times = -3; times <= 44; times++) {
            boolean is = times >= 1 && times <= 40;
            Check.due("paintings(" + times + ", 0, 0)", x.paintings(times, 0, 0), is ? times : SumColours.OUTSIDE);
        }
        for (int times : new int[] {Integer.MIN_VALUE, 1000, GREATEST}) {
            Check.due("paintings(" + times + ", 0, 0)", x.paintings(times, 0, 0), SumColours.OUTSIDE);
        }
    }

    private static void seedAndWhat() {
        SumColours x = Check.board("2;nnnn;abba");
        for (int seed : new int[] {Integer.MIN_VALUE, Integer.MIN_VALUE + 1, -65536, -2, -1}) {
            for (int what = 0; what <= 2; what++) {
                Check.due("paintings(1, " + seed + ", " + what + ")", x.paintings(1, seed, what), SumColours.OUTSIDE);
            }
        }
        for (int seed : new int[] {0, 1, 2, GREATEST - 1, GREATEST}) {
            Check.due("paintings(1, " + seed + ", 2)", x.paintings(1, seed, 2), seed);
        }
        int[] due = {3, 0, 9};
        for (int what = -3; what <= 5; what++) {
            boolean is = what >= 0 && what <= 2;
            Check.due("paintings(3, 9, " + what + ")", x.paintings(3, 9, what), is ? due[what] : SumColours.OUTSIDE);
        }
        for (int far : FAR) {
            Check.due("paintings(1, 1, " + far + ")", x.paintings(1, 1, far), SumColours.OUTSIDE);
        }
    }

    private static void noBoard() {
        SumColours x = new SumColours();
        for (int what = 0; what <= 2; what++) {
            Check.due("paintings(1, 0, " + what + ")", x.paintings(1, 0, what), SumColours.STATE);
        }
        Check.due("times first", x.paintings(0, 0, 0), SumColours.OUTSIDE);
        Check.due("times first, too", x.paintings(41, 0, 0), SumColours.OUTSIDE);
        Check.due("seed first", x.paintings(1, -1, 0), SumColours.OUTSIDE);
        Check.due("what first", x.paintings(1, 0, 3), SumColours.OUTSIDE);
        Check.type(x, "2;nnnn;abba");
        Check.due("not read yet", x.paintings(1, 0, 0), SumColours.STATE);
        x.board();
        Check.due("a board", x.paintings(1, 0, 0), 1);
    }
}
