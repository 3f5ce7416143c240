import java.math.BigInteger;

/** The edges that promises 19 to 22 name: image, restore, count, digest. */
public final class EdgesOfToldTest {
    private static final int[] FAR = {Integer.MIN_VALUE, -2, -1, 9, 10, 1000, Integer.MAX_VALUE};

    public static void main(String[] args) {
        images();
        counts();
        digests();
        Check.end("EdgesOfToldTest");
    }

    private static void images() {
        Sentences.test("Terms", "An IMAGE keeps KINDS, what is PAINTED, how often that was changed, SEEN.",
            EdgesOfToldTest::whatIsKept);
        Sentences.test("19", "An IMAGE is kept (one; the latest)", EdgesOfToldTest::theLatest);
        Sentences.test("19", "how many changes there were.", EdgesOfToldTest::changesOfAnImage);
        Sentences.test("19", "STATE: no BOARD.", EdgesOfToldTest::imageRefusal);
        Sentences.test("20", "It goes on from the IMAGE: how many changes there were.", EdgesOfToldTest::goesOn);
        Sentences.test("20", "STATE: none was kept", EdgesOfToldTest::noneWasKept);
        Sentences.test("20", "or there is another BOARD since.", EdgesOfToldTest::anotherBoardSince);
    }

    private static void counts() {
        Sentences.test("21", "0 NUMBERS, 1 COLOURS", EdgesOfToldTest::numbersAndColours);
        Sentences.test("21", "2 that are BARE, 3 THREES that are BAD, 4 THREES that there are",
            EdgesOfToldTest::bareAndThrees);
        Sentences.test("21", "5 changes (paint() and wipe())", EdgesOfToldTest::changes);
        Sentences.test("21", "6 what is SEEN, 7 letters of THE PAGE", EdgesOfToldTest::seenAndLetters);
        Sentences.test("21", "8 how often a BOARD was read.", EdgesOfToldTest::boardsRead);
        Sentences.test("21", "OUTSIDE.", EdgesOfToldTest::countRefusals);
    }

    private static void digests() {
        Sentences.test("22", "h is 1321", EdgesOfToldTest::ofANewObject);
        Sentences.test("22", "31 times h, and it (as longs, wrapping)", EdgesOfToldTest::wrapping);
        Sentences.test("22", "of each NUMBER what number() tells for 0 to 5, odds() of COLOUR 0 for 0 and 1",
            EdgesOfToldTest::ofEachNumber);
        Sentences.test("22", "with a BOARD ways() for 0 to 2, mend(), wins() for 0 and 1", EdgesOfToldTest::withABoard);
        Sentences.test("22", "letters of THE PAGE", EdgesOfToldTest::lettersOfThePage);
        Sentences.test("22", "what count() tells for 0 to 8.", EdgesOfToldTest::allCounts);
    }

    // ---- image, restore

    private static void whatIsKept() {
        SumColours kinds = Check.board("2;nlfs;a...");
        kinds.image();
        kinds.be(1, 4);
        kinds.be(4, 0);
        kinds.restore();
        Check.due("kind of 1", kinds.number(1, 0), 0);
        Check.due("kind of 4", kinds.number(4, 0), 3);
        SumColours painted = Check.board("2;nlfs;a...");
        painted.image();
        painted.paint(2, 1);
        painted.wipe(1);
        painted.restore();
        Check.due("colour of 1", painted.number(1, 1), 0);
        Check.due("colour of 2", painted.number(2, 1), SumColours.NONE);
        Check.due("changes", painted.count(5), 0);
        SumColours seen = Check.board("2;nlfs;a...");
        seen.see(1, 0, true);
        seen.image();
        seen.see(1, 1, true);
        seen.restore();
        Check.due("what is seen", seen.count(6), 1);
        Check.due("sorts of 1", seen.number(1, 3), 11);
        seen.forget();
        seen.see(2, 2, false);
        seen.restore();
        Check.due("sorts of 1 again", seen.number(1, 3), 11);
        Check.due("sorts of 2", seen.number(2, 3), 31);
        Check.type(seen, "2;n");
        seen.restore();
        Check.due("the page is not kept", seen.blank(), 3);
        Check.due("nor how often a board was read", seen.count(8), 1);
    }

    private static void theLatest() {
        SumColours x = Check.board("2;ffff;....");
        for (int number = 1; number <= 4; number++) {
            x.paint(number, 0);
            Check.due("image() " + number, x.image(), number);
        }
        x.wipe(1);
        Check.due("restore()", x.restore(), 4);
        Check.due("none is bare", x.count(2), 0);
        Check.due("no older one stands behind it: restore()", x.restore(), 4);
        x.wipe(4);
        x.image();
        x.paint(4, 1);
        x.restore();
        Check.due("the latest of all", x.number(4, 1), SumColours.NONE);
        Check.due("its changes", x.count(5), 5);
    }

    private static void changesOfAnImage() {
        SumColours x = Check.board("2;ffff;a...");
        Check.due("none", x.image(), 0);
        x.be(1, 0);
        x.see(1, 0, true);
        x.paint(1, 5);
        Check.due("still none", x.image(), 0);
        x.paint(1, 0);
        Check.due("one", x.image(), 1);
        x.wipe(1);
        Check.due("two", x.image(), 2);
        Check.due("image() is none", x.image(), 2);
    }

    private static void imageRefusal() {
        SumColours x = new SumColours();
        Check.due("no board", x.image(), SumColours.STATE);
        Check.due("and none was kept", x.restore(), SumColours.STATE);
        Check.type(x, "2;ffff;....");
        Check.due("not read yet", x.image(), SumColours.STATE);
        x.board();
        Check.due("still none was kept", x.restore(), SumColours.STATE);
        Check.due("a board", x.image(), 0);
        Check.due("and one was kept", x.restore(), 0);
    }

    private static void goesOn() {
        SumColours x = Check.board("3;nlfso;ab...");
        x.paint(3, 2);
        x.wipe(1);
        x.see(2, 1, true);
        x.image();
        long then = x.digest();
        for (int round = 1; round <= 3; round++) {
            x.be(2, round);
            x.paint(1, 1);
            x.paint(5, 0);
            x.wipe(3);
            x.see(3, 0, false);
            Check.due("it is another in round " + round, x.digest() == then ? 1 : 0, 0);
            Check.due("restore() in round " + round, x.restore(), 2);
            Check.due("all as it was in round " + round, x.digest(), then);
        }
        Check.due("restore() with nothing done since", x.restore(), 2);
        Check.due("it goes on: paint()", x.paint(1, 0), 0);
        Check.due("it goes on: changes", x.count(5), 3);
        Check.due("it goes on: see()", x.see(2, 0, true), 2);
    }

    private static void noneWasKept() {
        Check.due("a new object", new SumColours().restore(), SumColours.STATE);
        SumColours x = Check.board("2;ffff;....");
        x.paint(1, 1);
        Check.due("a board, no image", x.restore(), SumColours.STATE);
        Check.due("it stays as it is", x.number(1, 1), 1);
        x.image();
        Check.due("an image", x.restore(), 1);
        Check.due("it is kept on", x.restore(), 1);
    }

    private static void anotherBoardSince() {
        SumColours x = Check.board("2;ffff;a...");
        x.image();
        Check.type(x, "2;ffff;");
        Check.due("board() of none", x.board(), SumColours.STATE);
        Check.due("no other board since", x.restore(), 0);
        Check.type(x, "b...");
        Check.due("board()", x.board(), 4);
        Check.due("another board since", x.restore(), SumColours.STATE);
        Check.due("it stays as it is", x.number(1, 1), 1);
        Check.due("an image of the other", x.image(), 0);
        x.wipe(1);
        Check.due("restore() to that", x.restore(), 0);
        Check.due("as it was then", x.number(1, 1), 1);
        Check.type(x, "2;ffff;b...");
        x.board();
        Check.due("another board, of the same text", x.restore(), SumColours.STATE);
    }

    // ---- count

    private static void numbersAndColours() {
        Check.due("no board: numbers", new SumColours().count(0), 0);
        Check.due("no board: colours", new SumColours().count(1), 0);
        for (int numbers = 4; numbers <= 10; numbers++) {
            for (int colours = 2; colours <= 3; colours++) {
                String text = colours + ";" + "s".repeat(numbers) + ";" + ".".repeat(numbers);
                SumColours x = Check.board(text);
                Check.due("numbers of " + text, x.count(0), numbers);
                Check.due("colours of " + text, x.count(1), colours);
            }
        }
    }

    private static void bareAndThrees() {
        SumColours none = new SumColours();
        SumColours x = Check.board("2;nnnnnnnnnn;..........");
        int[] bad = {0, 0, 1, 2, 4, 6, 9, 12, 16, 20, 25};
        for (int painted = 0; painted <= 10; painted++) {
            if (painted > 0) {
                x.paint(painted, 1);
            }
            Check.due(painted + " painted: bare", x.count(2), 10 - painted);
            Check.due(painted + " painted: bad", x.count(3), bad[painted]);
            Check.due(painted + " painted: threes", x.count(4), 25);
        }
        Check.due("four numbers: threes", Check.board("2;oooo;....").count(4), 4);
        for (int what = 2; what <= 4; what++) {
            Check.due("no board: count(" + what + ")", none.count(what), 0);
        }
    }

    private static void changes() {
        SumColours x = Check.board("2;ffff;a...");
        Check.due("none", x.count(5), 0);
        x.paint(2, 0);
        Check.due("paint()", x.count(5), 1);
        x.paint(2, 0);
        Check.due("paint() with the same", x.count(5), 2);
        x.wipe(2);
        Check.due("wipe()", x.count(5), 3);
        x.be(2, 0);
        x.see(1, 0, true);
        x.forget();
        x.paintings(5, 5, 0);
        x.mend();
        x.wins(0);
        x.ways(1);
        x.image();
        x.digest();
        x.letter('2');
        x.blank();
        Check.due("no other call is one", x.count(5), 3);
        x.paint(5, 0);
        x.paint(1, 2);
        x.wipe(2);
        Check.due("nor is one that is refused", x.count(5), 3);
    }

    private static void seenAndLetters() {
        SumColours x = Check.board("2;ffff;....");
        for (int seen = 0; seen <= 6; seen++) {
            Check.due("seen " + seen, x.count(6), seen);
            x.see(1, 0, true);
        }
        Check.due("six at most", x.count(6), 6);
        for (int letters = 0; letters <= 26; letters++) {
            Check.due("letters " + letters, x.count(7), letters);
            x.letter('n');
        }
        Check.due("26 at most", x.count(7), 26);
    }

    private static void boardsRead() {
        SumColours x = new SumColours();
        Check.due("none", x.count(8), 0);
        Check.due("none to read", x.board(), SumColours.STATE);
        Check.due("still none", x.count(8), 0);
        for (int times = 1; times <= 20; times++) {
            Check.type(x, "2;ffff;....");
            x.board();
            Check.due("read " + times, x.count(8), times);
        }
        x.image();
        x.restore();
        x.board();
        Check.due("neither an image nor a refusal is one", x.count(8), 20);
    }

    private static void countRefusals() {
        SumColours none = new SumColours();
        SumColours x = Check.board("2;ffff;....");
        int[] due = {4, 2, 4, 0, 4, 0, 0, 0, 1};
        for (int what = -3; what <= 12; what++) {
            boolean is = what >= 0 && what <= 8;
            Check.due("count(" + what + ")", x.count(what), is ? due[what] : SumColours.OUTSIDE);
            Check.due("count(" + what + ") without a board", none.count(what), is ? 0 : SumColours.OUTSIDE);
        }
        for (int far : FAR) {
            Check.due("count(" + far + ")", x.count(far), SumColours.OUTSIDE);
        }
    }

    // ---- digest

    /** The numbers one by one, without wrapping: cut down to a long at the end alone. */
    private static final class Told {
        private BigInteger h = BigInteger.valueOf(1321);

        private Told and(long number) {
            h = h.multiply(BigInteger.valueOf(31)).add(BigInteger.valueOf(number));
            return this;
        }

        private Told and(int... numbers) {
            for (int number : numbers) {
                and((long) number);
            }
            return this;
        }

        private long wrapped() {
            return h.longValue();
        }
    }

    private static void ofANewObject() {
        // nothing but nine counts of 0: 1321 times 31 to the ninth
        Check.due("a new object", new SumColours().digest(), 1321L * 26439622160671L);
        Check.due("the same by hand", new Told().and(0, 0, 0, 0, 0, 0, 0, 0, 0).wrapped(), 1321L * 26439622160671L);
    }

    /** 2;nnnn;abba, told by hand: kind, colour, sure, sorts, ask, bad threes, odds of each number; what would be; counts. */
    private static Told handTold() {
        return new Told()
            .and(0, 0, 0, 31, 0, 0, 1, 1)
            .and(0, 1, 1, 31, 0, 0, 0, 1)
            .and(0, 1, 1, 31, 0, 0, 0, 1)
            .and(0, 0, 0, 31, 0, 0, 1, 1)
            .and(1, -1, 4)
            .and(0)
            .and(0, -1);
    }

    private static void wrapping() {
        Told all = handTold().and(4, 2, 0, 0, 4, 0, 0, 0, 1);
        Check.due("it does not fit in a long", all.h.bitLength() > 63 ? 1 : 0, 1);
        Check.due("digest()", Check.board("2;nnnn;abba").digest(), all.wrapped());
    }

    private static void ofEachNumber() {
        // bare, bad, of each kind, seen: 1+1=2 is bad, so that there are no ways
        SumColours x = Check.board("3;nslfo;aa.bc");
        x.see(3, 0, false);
        Told all = new Told()
            .and(0, 0, -1, 31, 0, 1, 0, 1)
            .and(3, 0, -1, 31, 0, 1, 0, 1)
            .and(1, -1, -1, 20, 2, 0, 0, 1)
            .and(2, 1, -1, 31, 0, 0, 0, 1)
            .and(4, 2, -1, 31, 0, 0, 0, 1)
            .and(0, -1, 1)
            .and(1)
            .and(0, -1)
            .and(5, 3, 1, 1, 6, 0, 1, 0, 1);
        Check.due("digest()", x.digest(), all.wrapped());
        Check.due("digest() changes nothing", x.digest(), all.wrapped());
        // 16 ways: 4 is 0 in none of them, 2 in all, 1 and 3 each in six
        Told odds = new Told()
            .and(2, -1, -1, 31, 0, 0, 3, 8)
            .and(2, 0, 0, 31, 0, 0, 1, 1)
            .and(2, -1, -1, 31, 0, 0, 3, 8)
            .and(3, -1, -1, 31, 0, 0, 0, 1)
            .and(16, 41, 4)
            .and(0)
            .and(1, 0)
            .and(4, 3, 3, 0, 4, 0, 0, 0, 1);
        Check.due("digest(), odds of colour 0", Check.board("3;fffs;.a..").digest(), odds.wrapped());
    }

    private static void withABoard() {
        SumColours x = new SumColours();
        Check.type(x, "2;nnnn;abba");
        Told before = new Told();
        for (char letter : "2;nnnn;abba".toCharArray()) {
            before.and((int) letter);
        }
        Check.due("without", x.digest(), before.and(0, 0, 0, 0, 0, 0, 0, 11, 0).wrapped());
        x.board();
        Check.due("with", x.digest(), handTold().and(4, 2, 0, 0, 4, 0, 0, 0, 1).wrapped());
        SumColours next = Check.board("2;nnnn;....");
        Told two = new Told();
        for (int number = 1; number <= 4; number++) {
            two.and(0, -1, -1, 31, 0, 0, 1, 2);
        }
        two.and(2, 10, 4, 0, 1, 0).and(4, 2, 4, 0, 4, 0, 0, 0, 1);
        Check.due("with, all bare", next.digest(), two.wrapped());
    }

    private static void lettersOfThePage() {
        SumColours x = new SumColours();
        x.letter(32);
        Check.due("one letter", x.digest(), (1321L * 31 + 32) * 26439622160671L + 31);
        x.letter(126);
        Check.due("two letters", x.digest(), new Told().and(32, 126).and(0, 0, 0, 0, 0, 0, 0, 2, 0).wrapped());
        x.blank();
        Check.due("none", x.digest(), 1321L * 26439622160671L);
        Told full = new Told();
        for (int letter = 0; letter < 26; letter++) {
            x.letter(40 + letter);
            full.and(40 + letter);
        }
        Check.due("26 letters", x.digest(), full.and(0, 0, 0, 0, 0, 0, 0, 26, 0).wrapped());
        SumColours board = Check.board("2;nnnn;abba");
        Check.type(board, "~ ");
        Check.due("with a board", board.digest(), handTold().and(126, 32).and(4, 2, 0, 0, 4, 0, 0, 2, 1).wrapped());
    }

    private static void allCounts() {
        SumColours x = Check.board("2;nnnn;abb.");
        Check.type(x, "2;nnnn;abb.");
        x.board();
        x.paint(4, 0);
        x.paint(4, 0);
        x.forget();
        Check.due("digest()", x.digest(), handTold().and(4, 2, 0, 0, 4, 2, 0, 0, 2).wrapped());
    }
}
