/** The edges that promises 9 to 11 name: paint, wipe, be. */
public final class EdgesOfDoneTest {
    private static final int[] FAR = {Integer.MIN_VALUE, -2, -1, 11, 12, 1000, Integer.MAX_VALUE};

    public static void main(String[] args) {
        Sentences.test("9", "A NUMBER is PAINTED (it may be already)", EdgesOfDoneTest::paintedAlready);
        Sentences.test("9", "how many THREES are BAD then", EdgesOfDoneTest::badThen);
        Sentences.test("9", "OUTSIDE: colour (one that there is)", EdgesOfDoneTest::coloursThatThereAre);
        Sentences.test("9", "UNKNOWN; OUTSIDE", EdgesOfDoneTest::paintUnknown);
        Sentences.test("9", "FULL: 999 changes were.", EdgesOfDoneTest::fullOfPaints);
        Sentences.test("10", "A NUMBER is BARE: which COLOUR it had.", EdgesOfDoneTest::whichItHad);
        Sentences.test("10", "UNKNOWN; STATE: it is", EdgesOfDoneTest::itIsBare);
        Sentences.test("10", "FULL: as above.", EdgesOfDoneTest::fullOfWipes);
        Sentences.test("11", "A NUMBER is of another KIND: of which it was.", EdgesOfDoneTest::ofWhichItWas);
        Sentences.test("11", "OUTSIDE: kind (0 to 4).", EdgesOfDoneTest::kindsThatThereAre);
        Sentences.test("11", "UNKNOWN; OUTSIDE", EdgesOfDoneTest::beUnknown);
        Check.end("EdgesOfDoneTest");
    }

    private static void paintedAlready() {
        SumColours x = Check.board("3;ffff;.a..");
        Check.due("bare", x.paint(1, 2), 0);
        Check.due("it has that", x.number(1, 1), 2);
        Check.due("painted with another, by the text", x.paint(2, 1), 0);
        Check.due("it has that, too", x.number(2, 1), 1);
        Check.due("painted with another, by paint()", x.paint(1, 0), 0);
        Check.due("it has the later one", x.number(1, 1), 0);
        Check.due("changes so far", x.count(5), 3);
        Check.due("painted with the same", x.paint(1, 0), 0);
        Check.due("it has it still", x.number(1, 1), 0);
        Check.due("each paint() is a change", x.count(5), 4);
        Check.due("how many are bare", x.count(2), 2);
    }

    private static void badThen() {
        SumColours x = Check.board("2;nnnnnnnnnn;..........");
        // with 1 to n of one colour all threes up to n are bad
        int[] bad = {0, 1, 2, 4, 6, 9, 12, 16, 20, 25};
        for (int number = 1; number <= 10; number++) {
            Check.due("paint(" + number + ", 1)", x.paint(number, 1), bad[number - 1]);
        }
        Check.due("the same again", x.paint(10, 1), 25);
        Check.due("10 otherwise", x.paint(10, 0), 20);
        Check.due("1 otherwise: nine threes less, of which 1+9=10 was gone", x.paint(1, 0), 12);
        SumColours low = Check.board("2;nnnn;.a..");
        Check.due("the last of a three is its part", low.paint(1, 0), 1);
    }

    private static void coloursThatThereAre() {
        for (int colours = 2; colours <= 3; colours++) {
            SumColours x = Check.board(colours + ";ffff;....");
            int taken = 0;
            for (int colour = -4; colour <= 6; colour++) {
                boolean is = colour >= 0 && colour < colours;
                taken += is ? 1 : 0;
                Check.due("paint(4, " + colour + ") of " + colours, x.paint(4, colour), is ? 0 : SumColours.OUTSIDE);
                Check.due("changes then", x.count(5), taken);
            }
            for (int far : FAR) {
                Check.due("paint(4, " + far + ")", x.paint(4, far), SumColours.OUTSIDE);
            }
            Check.due("the last that was taken", x.number(4, 1), colours - 1);
        }
    }

    private static void paintUnknown() {
        SumColours x = Check.board("2;ffff;....");
        for (int number = -2; number <= 7; number++) {
            boolean is = number >= 1 && number <= 4;
            Check.due("paint(" + number + ", 0)", x.paint(number, 0), is ? 0 : SumColours.UNKNOWN);
            Check.due("paint(" + number + ", 2)", x.paint(number, 2), is ? SumColours.OUTSIDE : SumColours.UNKNOWN);
        }
        for (int far : FAR) {
            Check.due("paint(" + far + ", 0)", x.paint(far, 0), SumColours.UNKNOWN);
        }
        Check.due("changes", x.count(5), 4);
    }

    /** A board on which so many changes were, the last of them a paint(): beyond 512 calls, as no other run gets there. */
    private static SumColours changed(int changes) {
        SumColours x = Check.board("2;ffff;....");
        for (int change = 0; change < changes; change++) {
            x.paint(1 + change % 2, change % 2);
        }
        Check.due("changes", x.count(5), changes);
        return x;
    }

    private static void fullOfPaints() {
        SumColours x = changed(998);
        Check.due("the 999th", x.paint(3, 1), 0);
        Check.due("count(5)", x.count(5), 999);
        Check.due("one more", x.paint(3, 0), SumColours.FULL);
        Check.due("one more, with the colour that it has", x.paint(3, 1), SumColours.FULL);
        Check.due("one more, of a bare one", x.paint(4, 0), SumColours.FULL);
        Check.due("it has what it had", x.number(3, 1), 1);
        Check.due("it is still bare", x.number(4, 1), SumColours.NONE);
        Check.due("count(5) then", x.count(5), 999);
        Check.due("be() is no change", x.be(3, 4), 2);
        Check.due("image()", x.image(), 999);
        Check.type(x, "2;ffff;....");
        Check.due("another board", x.board(), 4);
        Check.due("no changes of that", x.paint(1, 0), 0);
    }

    private static void whichItHad() {
        SumColours x = Check.board("3;ffff;abc.");
        for (int number = 1; number <= 3; number++) {
            Check.due("wipe(" + number + ")", x.wipe(number), number - 1);
            Check.due("it is bare", x.number(number, 1), SumColours.NONE);
            Check.due("changes", x.count(5), number);
        }
        x.paint(4, 2);
        x.paint(4, 1);
        Check.due("the later of two", x.wipe(4), 1);
        SumColours bad = Check.board("2;nnnn;aaaa");
        bad.wipe(1);
        Check.due("threes with a bare one are not bad", bad.count(3), 1);
    }

    private static void itIsBare() {
        SumColours x = Check.board("2;ffff;.a..");
        for (int number = -2; number <= 7; number++) {
            int due = number < 1 || number > 4 ? SumColours.UNKNOWN : number == 2 ? 0 : SumColours.STATE;
            Check.due("wipe(" + number + ")", x.wipe(number), due);
        }
        Check.due("wiped already", x.wipe(2), SumColours.STATE);
        Check.due("changes", x.count(5), 1);
        x.paint(2, 1);
        Check.due("painted again", x.wipe(2), 1);
        for (int far : FAR) {
            Check.due("wipe(" + far + ")", x.wipe(far), SumColours.UNKNOWN);
        }
    }

    private static void fullOfWipes() {
        SumColours x = changed(998);
        Check.due("the 999th", x.wipe(1), 0);
        Check.due("count(5)", x.count(5), 999);
        Check.due("one more", x.wipe(2), SumColours.FULL);
        Check.due("it has what it had", x.number(2, 1), 1);
        Check.due("a bare one: STATE first", x.wipe(1), SumColours.STATE);
        Check.due("none such: UNKNOWN first", x.wipe(5), SumColours.UNKNOWN);
        Check.due("paint(), too", x.paint(1, 0), SumColours.FULL);
        SumColours kept = changed(998);
        kept.image();
        kept.paint(1, 1);
        Check.due("full", kept.wipe(1), SumColours.FULL);
        Check.due("restore()", kept.restore(), 998);
        Check.due("not full any more", kept.wipe(1), 0);
    }

    private static void ofWhichItWas() {
        SumColours x = Check.board("2;nlfso;.....");
        for (int number = 1; number <= 5; number++) {
            int was = number - 1;
            for (int kind = 0; kind < 5; kind++) {
                Check.due("be(" + number + ", " + kind + ")", x.be(number, kind), was);
                Check.due("it is that", x.number(number, 0), kind);
                was = kind;
            }
            Check.due("the kind that it is", x.be(number, 4), 4);
        }
        Check.due("no changes", x.count(5), 0);
        SumColours bad = Check.board("2;onfo;aa..");
        Check.due("1 is lone", bad.count(3), 0);
        bad.be(1, 2);
        Check.due("1 is free, and a part", bad.count(3), 1);
        Check.due("what is painted stays", bad.number(1, 1), 0);
        bad.be(2, 1);
        Check.due("2 is loose", bad.count(3), 0);
    }

    private static void kindsThatThereAre() {
        SumColours x = Check.board("2;nnnn;....");
        int was = 0;
        for (int kind = -4; kind <= 8; kind++) {
            boolean is = kind >= 0 && kind <= 4;
            Check.due("be(4, " + kind + ")", x.be(4, kind), is ? was : SumColours.OUTSIDE);
            was = is ? kind : was;
            Check.due("kind then", x.number(4, 0), was);
        }
        for (int far : FAR) {
            Check.due("be(4, " + far + ")", x.be(4, far), SumColours.OUTSIDE);
        }
        Check.due("kind of it all", x.number(4, 0), 4);
    }

    private static void beUnknown() {
        SumColours x = Check.board("2;nnnn;....");
        for (int number = -2; number <= 7; number++) {
            boolean is = number >= 1 && number <= 4;
            Check.due("be(" + number + ", 1)", x.be(number, 1), is ? 0 : SumColours.UNKNOWN);
            Check.due("be(" + number + ", 5)", x.be(number, 5), is ? SumColours.OUTSIDE : SumColours.UNKNOWN);
        }
        for (int far : FAR) {
            Check.due("be(" + far + ", 0)", x.be(far, 0), SumColours.UNKNOWN);
        }
    }
}
