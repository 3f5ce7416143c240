/** The edges that "What it is", "Terms" and promises 1 to 5 name: the board as a text, and the page. */
public final class EdgesOfTheBoardTest {
    private static final String KINDS = "nlfso";
    private static final int[] FAR = {Integer.MIN_VALUE, Integer.MIN_VALUE + 1, -1, 0, Integer.MAX_VALUE};

    public static void main(String[] args) {
        whatItIs();
        terms();
        promises();
        Check.end("EdgesOfTheBoardTest");
    }

    private static void whatItIs() {
        String here = "What it is";
        Sentences.test(here, "An object is used for at most 512 calls after it has been made",
            EdgesOfTheBoardTest::fiveHundredAndTwelveCalls);
        Sentences.test(here, "what later calls answer is free", EdgesOfTheBoardTest::laterCallsDoNotThrow);
        Sentences.test(here, "a digit, how many COLOURS (2 or 3, numbered from 0)", EdgesOfTheBoardTest::twoOrThree);
        Sentences.test(here, "numbered from 0", EdgesOfTheBoardTest::coloursFromNought);
        Sentences.test(here, "\";\"; four to ten letters", EdgesOfTheBoardTest::theFirstSemicolon);
        Sentences.test(here, "four to ten letters, the KINDS of the NUMBERS 1, 2, 3, and on",
            EdgesOfTheBoardTest::fourToTen);
        Sentences.test(here, "\";\"; as many signs", EdgesOfTheBoardTest::theSecondSemicolon);
        Sentences.test(here, "as many signs", EdgesOfTheBoardTest::asManySigns);
        Sentences.test(here, "of each of them \".\" (it is BARE), or \"a\", \"b\", \"c\"", EdgesOfTheBoardTest::signs);
        Sentences.test(here, "(it is PAINTED with COLOUR 0, 1, 2, of those that there are)",
            EdgesOfTheBoardTest::signsTellColours);
    }

    private static void terms() {
        String here = "Terms";
        Sentences.test(here, "At first there is none; then nothing was changed.", EdgesOfTheBoardTest::atFirst);
        Sentences.test(here, "KINDS are told by the letter: 0 NUMBER \"n\", 1 LOOSE \"l\", 2 FREE \"f\", 3 SHY \"s\","
            + " 4 LONE \"o\".", EdgesOfTheBoardTest::kindLetters);
    }

    private static void promises() {
        Sentences.test("1", "No BOARD.", EdgesOfTheBoardTest::noBoard);
        Sentences.test("2", "A letter comes behind THE PAGE, told by its code: how many THE PAGE has.",
            EdgesOfTheBoardTest::behindThePage);
        Sentences.test("2", "OUTSIDE: code (32 to 126)", EdgesOfTheBoardTest::codes);
        Sentences.test("2", "FULL: above 26.", EdgesOfTheBoardTest::aboveTwentySix);
        Sentences.test("3", "THE PAGE is empty: how many letters it had.", EdgesOfTheBoardTest::blanked);
        Sentences.test("4", "The place (from 0) of the first letter of THE PAGE that no BOARD has there",
            EdgesOfTheBoardTest::firstOfSeveral);
        Sentences.test("4", "behind those ahead of it", EdgesOfTheBoardTest::behindThoseAhead);
        Sentences.test("4", "how many letters it has, if there is none.", EdgesOfTheBoardTest::noFault);
        Sentences.test("5", "another one is gone, with all that was", EdgesOfTheBoardTest::allIsGone);
        Sentences.test("5", "how many NUMBERS", EdgesOfTheBoardTest::howManyNumbers);
        Sentences.test("5", "THE PAGE is empty then.", EdgesOfTheBoardTest::emptyThen);
        Sentences.test("5", "STATE: it is none.", EdgesOfTheBoardTest::noneIsRefused);
    }

    // ---- what it is

    /** Eleven letters, board(), 498 paints, count(5), and digest() as the 512th call: each as the model answers. */
    private static SumColours usedUp() {
        SumColours x = new SumColours();
        Model model = new Model();
        String text = "3;nlsn;....";
        int calls = 0;
        for (char letter : text.toCharArray()) {
            calls++;
            Check.due("call " + calls, x.letter(letter), model.letter(letter));
        }
        calls++;
        Check.due("call " + calls, x.board(), model.board());
        while (calls < 510) {
            calls++;
            int number = 1 + calls % 4;
            int colour = calls / 4 % 3;
            Check.due("call " + calls, x.paint(number, colour), model.paint(number, colour));
        }
        Check.due("call 511: changes", x.count(5), 498);
        Check.due("call 512", x.digest(), model.digest());
        return x;
    }

    private static void fiveHundredAndTwelveCalls() {
        usedUp();
        SumColours letters = new SumColours();
        for (int call = 1; call < 512; call++) {
            int had = call % 2 == 0 ? letters.blank() : letters.letter(32 + call % 95);
            Check.due("letter() and blank() in turn, call " + call, had, 1);
        }
        Check.due("letter() and blank() in turn, call 512", letters.blank(), 1);
        SumColours readings = new SumColours();
        for (int reading = 1; reading <= 42; reading++) {
            Check.type(readings, "2;nnnn;....");
            Check.due("reading " + reading, readings.board(), 4);
        }
        Check.due("call 505: how often a board was read", readings.count(8), 42);
    }

    private static void laterCallsDoNotThrow() {
        SumColours x = usedUp();
        int thrown = 0;
        for (int call = 513; call < 3000; call++) {
            try {
                laterCall(x, call);
            } catch (RuntimeException one) {
                thrown++;
            }
        }
        Check.due("calls that threw", thrown, 0);
    }

    private static void laterCall(SumColours x, int call) {
        int any = call * 7 % 29 - 9;
        x.letter(call % 140);
        x.fault();
        x.board();
        x.number(any, call % 7);
        x.way(any, call % 6);
        x.paint(call % 5, call % 4);
        x.wipe(any);
        x.be(call % 5, any);
        x.see(any, call % 3, true);
        x.paintings(any, call, call % 3);
        x.image();
        x.restore();
        x.digest();
    }

    private static void twoOrThree() {
        for (int code = 32; code <= 126; code++) {
            String text = (char) code + ";nnnn;....";
            boolean is = code == '2' || code == '3';
            Check.due("board() of " + text, Check.readingOf(text), is ? 4 : SumColours.STATE);
            Check.due("fault() of " + text, Check.faultOf(text), is ? 11 : 0);
        }
        Check.due("count(1) of two", Check.board("2;nnnn;....").count(1), 2);
        Check.due("count(1) of three", Check.board("3;nnnn;....").count(1), 3);
        Check.due("two digits", Check.faultOf("22;nnnn;...."), 1);
        Check.due("no digit", Check.faultOf(";nnnn;...."), 0);
    }

    private static void coloursFromNought() {
        for (int colours = 2; colours <= 3; colours++) {
            SumColours x = Check.board(colours + ";ffff;ab..");
            Check.due("'a'", x.number(1, 1), 0);
            Check.due("'b'", x.number(2, 1), 1);
            Check.due("below the first", x.paint(3, -1), SumColours.OUTSIDE);
            Check.due("the first", x.paint(3, 0), 0);
            Check.due("the last of " + colours, x.paint(4, colours - 1), 0);
            Check.due("it has that", x.number(4, 1), colours - 1);
            Check.due("above the last of " + colours, x.paint(4, colours), SumColours.OUTSIDE);
        }
    }

    private static void theFirstSemicolon() {
        for (int code = 32; code <= 126; code++) {
            String text = "2" + (char) code + "nnnn;....";
            Check.due("fault() of " + text, Check.faultOf(text), code == ';' ? 11 : 1);
            Check.due("board() of " + text, Check.readingOf(text), code == ';' ? 4 : SumColours.STATE);
        }
    }

    private static void fourToTen() {
        for (int numbers = 0; numbers <= 11; numbers++) {
            String text = "3;" + "n".repeat(numbers) + ";" + ".".repeat(numbers);
            boolean is = numbers >= 4 && numbers <= 10;
            Check.due("board() of " + text, Check.readingOf(text), is ? numbers : SumColours.STATE);
            int fault = is ? text.length() : Math.min(2 + numbers, 12);
            Check.due("fault() of " + text, Check.faultOf(text), fault);
        }
        for (int numbers = 4; numbers <= 10; numbers++) {
            SumColours x = Check.board("2;" + "nlfsosfoln".substring(0, numbers) + ";" + ".".repeat(numbers));
            int[] kinds = {0, 1, 2, 3, 4, 3, 2, 4, 1, 0};
            Check.due("below the first of " + numbers, x.number(0, 0), SumColours.UNKNOWN);
            for (int number = 1; number <= numbers; number++) {
                Check.due("kind of " + number, x.number(number, 0), kinds[number - 1]);
            }
            Check.due("above the last of " + numbers, x.number(numbers + 1, 0), SumColours.UNKNOWN);
        }
    }

    private static void theSecondSemicolon() {
        for (int numbers = 4; numbers <= 10; numbers++) {
            for (int code = 32; code <= 126; code++) {
                String text = "2;" + "n".repeat(numbers) + (char) code;
                boolean fits = code == ';' || (numbers < 10 && KINDS.indexOf(code) >= 0);
                Check.due("fault() of " + text, Check.faultOf(text), fits ? numbers + 3 : numbers + 2);
            }
        }
    }

    private static void asManySigns() {
        for (int numbers = 4; numbers <= 10; numbers++) {
            for (int signs = 0; signs <= numbers + 2; signs++) {
                String text = "2;" + "o".repeat(numbers) + ";" + "b".repeat(signs);
                int due = signs == numbers ? numbers : SumColours.STATE;
                Check.due("board() of " + text, Check.readingOf(text), due);
                int fault = 3 + numbers + Math.min(signs, numbers);
                Check.due("fault() of " + text, Check.faultOf(text), fault);
            }
        }
    }

    private static void signs() {
        for (int colours = 2; colours <= 3; colours++) {
            String all = colours == 2 ? ".ab" : ".abc";
            for (int place = 0; place < 4; place++) {
                for (int code = 32; code <= 126; code++) {
                    String signs = "....".substring(0, place) + (char) code + "....".substring(place + 1);
                    String text = colours + ";ffff;" + signs;
                    boolean is = all.indexOf(code) >= 0;
                    Check.due("board() of " + text, Check.readingOf(text), is ? 4 : SumColours.STATE);
                    Check.due("fault() of " + text, Check.faultOf(text), is ? 11 : 7 + place);
                }
            }
        }
    }

    private static void signsTellColours() {
        SumColours three = Check.board("3;ffffffffff;abc.cba.ab");
        int[] tints = {0, 1, 2, -1, 2, 1, 0, -1, 0, 1};
        for (int number = 1; number <= 10; number++) {
            Check.due("colour of " + number, three.number(number, 1), tints[number - 1]);
        }
        Check.due("how many are bare", three.count(2), 2);
        Check.due("'c' of three", Check.readingOf("3;ffff;...c"), 4);
        Check.due("'c' of two", Check.readingOf("2;ffff;...c"), SumColours.STATE);
        Check.due("'d' of three", Check.readingOf("3;ffff;...d"), SumColours.STATE);
        Check.due("all are bare", Check.board("2;ffff;....").count(2), 4);
        Check.due("none is bare", Check.board("2;ffff;abab").count(2), 0);
    }

    // ---- terms

    private static void atFirst() {
        SumColours x = new SumColours();
        Check.due("boards at first", x.count(8), 0);
        Check.due("changes at first", x.count(5), 0);
        Check.type(x, "3;nnnn;abc.");
        Check.due("board()", x.board(), 4);
        Check.due("what the text paints is no change", x.count(5), 0);
        Check.due("image() tells changes", x.image(), 0);
    }

    private static void kindLetters() {
        for (int code = 32; code <= 126; code++) {
            int kind = KINDS.indexOf(code);
            for (int place = 0; place < 10; place++) {
                String kinds = "n".repeat(place) + (char) code + "n".repeat(9 - place);
                SumColours x = new SumColours();
                Check.type(x, "2;" + kinds + ";..........");
                if (kind >= 0) {
                    Check.due("board() of " + kinds, x.board(), 10);
                    Check.due("kind of '" + (char) code + "'", x.number(place + 1, 0), kind);
                } else {
                    Check.due("board() of " + kinds, x.board(), SumColours.STATE);
                }
            }
        }
    }

    // ---- promises 1 to 5

    private static void noBoard() {
        SumColours x = new SumColours();
        for (int what = 0; what <= 8; what++) {
            Check.due("count(" + what + ")", x.count(what), 0);
        }
        for (int number : new int[] {-1, 0, 1, 4, 10}) {
            Check.due("number(" + number + ", 0)", x.number(number, 0), SumColours.UNKNOWN);
            Check.due("as(" + number + ", 0)", x.as(number, 0), SumColours.UNKNOWN);
            Check.due("way(0, " + number + ")", x.way(0, number), SumColours.UNKNOWN);
            Check.due("paint(" + number + ", 0)", x.paint(number, 0), SumColours.UNKNOWN);
            Check.due("wipe(" + number + ")", x.wipe(number), SumColours.UNKNOWN);
            Check.due("be(" + number + ", 0)", x.be(number, 0), SumColours.UNKNOWN);
            Check.due("odds(" + number + ", 0, 0)", x.odds(number, 0, 0), SumColours.UNKNOWN);
            Check.due("see(" + number + ", 0, true)", x.see(number, 0, true), SumColours.UNKNOWN);
        }
        for (int what = 0; what <= 2; what++) {
            Check.due("ways(" + what + ")", x.ways(what), SumColours.STATE);
            Check.due("paintings(1, 0, " + what + ")", x.paintings(1, 0, what), SumColours.STATE);
        }
        Check.due("mend()", x.mend(), SumColours.STATE);
        Check.due("wins(0)", x.wins(0), SumColours.STATE);
        Check.due("wins(1)", x.wins(1), SumColours.STATE);
        Check.due("image()", x.image(), SumColours.STATE);
        Check.due("restore()", x.restore(), SumColours.STATE);
        Check.due("board()", x.board(), SumColours.STATE);
        Check.due("blank()", x.blank(), 0);
        Check.due("fault()", x.fault(), 0);
        Check.due("forget()", x.forget(), 0);
    }

    private static void behindThePage() {
        SumColours x = new SumColours();
        String text = "3;nlfso;ab.c.";
        for (int place = 0; place < text.length(); place++) {
            Check.due("letter " + place, x.letter(text.charAt(place)), place + 1);
            Check.due("count(7)", x.count(7), place + 1);
            Check.due("each comes behind the last: fault()", x.fault(), place + 1);
        }
        Check.due("read as typed: board()", x.board(), 5);
        Check.due("the first again", x.letter('2'), 1);
    }

    private static void codes() {
        for (int code = -300; code <= 1000; code++) {
            SumColours one = new SumColours();
            boolean is = code >= 32 && code <= 126;
            Check.due("letter(" + code + ")", one.letter(code), is ? 1 : SumColours.OUTSIDE);
            Check.due("blank() then", one.blank(), is ? 1 : 0);
        }
        SumColours x = new SumColours();
        // codes that would be letters, if they were cut down to a char or a byte
        for (int code : new int[] {65536 + '2', 256 + '2', '2' - 65536, Integer.MIN_VALUE + '2'}) {
            Check.due("letter(" + code + ")", x.letter(code), SumColours.OUTSIDE);
        }
        for (int code : FAR) {
            Check.due("letter(" + code + ")", x.letter(code), SumColours.OUTSIDE);
        }
        Check.due("count(7) after refusals", x.count(7), 0);
    }

    private static void aboveTwentySix() {
        SumColours x = new SumColours();
        for (int had = 0; had < 25; had++) {
            x.letter('n');
        }
        Check.due("the 26th", x.letter('n'), 26);
        Check.due("the 27th", x.letter('n'), SumColours.FULL);
        Check.due("the 27th again", x.letter(126), SumColours.FULL);
        Check.due("count(7)", x.count(7), 26);
        Check.due("blank()", x.blank(), 26);
        Check.due("after blank()", x.letter('n'), 1);
        x.blank();
        Check.type(x, "2;nnnnnnnnnn;..........");
        Check.due("the 23 letters of the longest board", x.count(7), 23);
        Check.due("board()", x.board(), 10);
        Check.due("after board()", x.letter('n'), 1);
    }

    private static void blanked() {
        for (int letters = 0; letters <= 26; letters++) {
            SumColours x = Check.board("2;nnnn;a...");
            Check.type(x, "3;nnnnnnnnnn;..........xyz".substring(0, letters));
            Check.due("blank() of " + letters, x.blank(), letters);
            Check.due("count(7) then", x.count(7), 0);
            Check.due("fault() then", x.fault(), 0);
            Check.due("board() then", x.board(), SumColours.STATE);
            Check.due("blank() again", x.blank(), 0);
            Check.due("the board stays", x.count(0), 4);
            Check.due("what is painted stays", x.number(1, 1), 0);
        }
    }

    private static void firstOfSeveral() {
        Check.due("at 0", Check.faultOf("x"), 0);
        Check.due("at 0, the rest fits", Check.faultOf("x;nnnn;...."), 0);
        Check.due("of all", Check.faultOf("xxxxxxxxxxx"), 0);
        Check.due("at 1 and behind", Check.faultOf("2xxxxx"), 1);
        Check.due("at 2 and behind", Check.faultOf("2;xnnn;x..."), 2);
        Check.due("at 5 and 9", Check.faultOf("2;nnnxn;.x.."), 5);
        Check.due("at 7 and 10", Check.faultOf("2;nnnn;x..x"), 7);
        Check.due("at the last", Check.faultOf("2;nnnn;...x"), 10);
        Check.due("at the last of the longest", Check.faultOf("2;nnnnnnnnnn;.........c"), 22);
        Check.due("behind the longest", Check.faultOf("2;nnnnnnnnnn;..........."), 23);
        Check.due("of a full page", Check.faultOf("2;nnnnnnnnnn;.............."), 23);
        Check.due("of a full page, at 0", Check.faultOf("n".repeat(26)), 0);
        SumColours x = new SumColours();
        Check.type(x, "2;nnnn;..x");
        Check.due("once", x.fault(), 9);
        Check.due("twice", x.fault(), 9);
        x.letter('.');
        Check.due("a letter behind it mends nothing", x.fault(), 9);
    }

    private static void behindThoseAhead() {
        Check.due("';' behind three kinds", Check.faultOf("2;nnn;"), 5);
        Check.due("';' behind four", Check.faultOf("2;nnnn;"), 7);
        Check.due("';' behind ten", Check.faultOf("2;nnnnnnnnnn;"), 13);
        Check.due("the tenth kind", Check.faultOf("2;nnnnnnnnnn"), 12);
        Check.due("the eleventh kind", Check.faultOf("2;nnnnnnnnnnn"), 12);
        Check.due("'c' behind a 2", Check.faultOf("2;nnnn;c"), 7);
        Check.due("'c' behind a 3", Check.faultOf("3;nnnn;c"), 8);
        Check.due("the fourth sign of four", Check.faultOf("2;nnnn;...."), 11);
        Check.due("the fifth sign of four", Check.faultOf("2;nnnn;....."), 11);
        Check.due("the fifth sign of five", Check.faultOf("2;nnnnn;....."), 13);
        Check.due("a kind among signs", Check.faultOf("2;nnnn;..n."), 9);
        Check.due("a sign among kinds", Check.faultOf("2;nn.n;...."), 4);
        Check.due("a third ';'", Check.faultOf("2;nnnn;....;"), 11);
    }

    private static void noFault() {
        Check.due("of an empty page", Check.faultOf(""), 0);
        String[] boards = {"2;nlfs;a.b.", "3;onlfsonlfs;abc.abc.ab"};
        for (String text : boards) {
            for (int letters = 1; letters <= text.length(); letters++) {
                String begun = text.substring(0, letters);
                Check.due("fault() of " + begun, Check.faultOf(begun), letters);
                int due = letters == text.length() ? (letters - 3) / 2 : SumColours.STATE;
                Check.due("board() of " + begun, Check.readingOf(begun), due);
            }
        }
    }

    private static void allIsGone() {
        SumColours x = Check.board("3;nlfsonlfso;..........");
        x.paint(1, 2);
        x.wipe(1);
        x.paint(10, 2);
        x.be(2, 4);
        x.see(2, 1, true);
        x.see(10, 2, false);
        Check.due("image() of the first", x.image(), 3);
        Check.due("ways(2) of the first", x.ways(2), 10);
        Check.type(x, "2;nnnn;a...");
        Check.due("board()", x.board(), 4);
        SumColours fresh = Check.board("2;nnnn;a...");
        for (int what = 0; what <= 7; what++) {
            Check.due("count(" + what + ")", x.count(what), fresh.count(what));
        }
        for (int number = -1; number <= 11; number++) {
            for (int what = 0; what <= 5; what++) {
                Check.due("number(" + number + ", " + what + ")", x.number(number, what), fresh.number(number, what));
            }
        }
        Check.due("its image", x.restore(), SumColours.STATE);
        Check.due("its third colour", x.paint(1, 2), SumColours.OUTSIDE);
        Check.due("its ways", x.ways(0), 1);
        Check.due("what was seen: the first seen", x.see(1, 0, true), 1);
        Check.due("how often a board was read is told of all", x.count(8), 2);
    }

    private static void howManyNumbers() {
        for (int numbers = 4; numbers <= 10; numbers++) {
            String text = "2;" + "l".repeat(numbers) + ";" + ".".repeat(numbers);
            Check.due("board() of " + text, Check.readingOf(text), numbers);
        }
    }

    private static void emptyThen() {
        SumColours x = Check.board("2;nnnn;....");
        Check.due("count(7)", x.count(7), 0);
        Check.due("blank()", x.blank(), 0);
        Check.due("fault()", x.fault(), 0);
        Check.due("board() again", x.board(), SumColours.STATE);
        Check.due("letter()", x.letter('2'), 1);
    }

    private static void noneIsRefused() {
        String[] none = {
            "", "2", "2;", "2;nnnn", "2;nnnn;", "2;nnnn;...", "2;nnnn;.....", "2;nnn;...", "2;nnnn;...c", "1;nnnn;....",
            "4;nnnn;....", "3;nnnn;...d", "2;nnnnnnnnnnn;...........", "2,nnnn;....", "2;nnnn,....", "2;nnnN;....",
            " 2;nnnn;....", "2;nnnn;.... ", "2;nnnn;....;"
        };
        for (String text : none) {
            SumColours x = Check.board("3;fffff;a.b.c");
            x.paint(2, 1);
            x.see(3, 2, true);
            x.image();
            long before = x.digest();
            Check.type(x, text);
            Check.due("board() of '" + text + "'", x.board(), SumColours.STATE);
            Check.due("the page stays", x.blank(), text.length());
            Check.due("all stays", x.digest(), before);
            Check.due("the image stays", x.restore(), 1);
        }
    }
}
