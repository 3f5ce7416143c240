/** The edges that promises 6 to 8 name, with the terms behind them: threes, SURE, SORTS, ASK, numbered ways. */
public final class EdgesOfNumbersTest {
    private static final String KINDS = "nlfso";
    private static final int[] FAR = {Integer.MIN_VALUE, -2, -1, 11, 12, 101, Integer.MAX_VALUE};

    public static void main(String[] args) {
        threes();
        ofANumber();
        asAndWay();
        Check.end("EdgesOfNumbersTest");
    }

    private static void threes() {
        String here = "Terms";
        Sentences.test(here, "A THREE is two NUMBERS (they may be one and the same)", EdgesOfNumbersTest::oneAndTheSame);
        Sentences.test(here, "the NUMBER that is their sum, if it is there", EdgesOfNumbersTest::ifItIsThere);
        Sentences.test(here, "It is BAD, if all are PAINTED with the same COLOUR", EdgesOfNumbersTest::sameColour);
        Sentences.test(here, "both counted as PARTS, and the sum MINDS it", EdgesOfNumbersTest::partsAndMinding);
        Sentences.test(here, "SHY and LONE ones are never PARTS", EdgesOfNumbersTest::neverParts);
        Sentences.test(here, "a plain one and a SHY one MIND it always, a LOOSE one if the two are unlike, a FREE and a"
            + " LONE one never.", EdgesOfNumbersTest::minding);
        Sentences.test(here, "They are numbered from 0, as they come by the COLOUR of NUMBER 1, then of 2, and so on.",
            EdgesOfNumbersTest::waysFromNought);
        Sentences.test(here, "(none: not in all the same, or there are no WAYS)", EdgesOfNumbersTest::notSure);
        Sentences.test(here, "SORTS (KINDS 0 to 4) it can be of, so that all that is SEEN of it is so: as bits.",
            EdgesOfNumbersTest::sortsAsBits);
        Sentences.test(here, "so that fewest of these are left at worst: of like ones the least; none, if there are"
            + " none.", EdgesOfNumbersTest::fewestLeft);
        Sentences.test(here, "All are NUMBERS; a LONE is SHY, too.", EdgesOfNumbersTest::loneIsShy);
        Sentences.test(here, "NUMBERS are named from 1 on", EdgesOfNumbersTest::namedFromOne);
    }

    private static void ofANumber() {
        Sentences.test("6", "1 its COLOUR (NONE: BARE)", EdgesOfNumbersTest::noneBare);
        Sentences.test("6", "2 SURE (NONE)", EdgesOfNumbersTest::sure);
        Sentences.test("6", "3 SORTS, as bits", EdgesOfNumbersTest::allSortsAtFirst);
        Sentences.test("6", "4 ASK (NONE)", EdgesOfNumbersTest::nothingToAsk);
        Sentences.test("6", "5 in how many BAD THREES it is (once in each)", EdgesOfNumbersTest::onceInEach);
        Sentences.test("6", "UNKNOWN; OUTSIDE.", EdgesOfNumbersTest::numberRefusals);
    }

    private static void asAndWay() {
        Sentences.test("7", "that NUMBER; NONE: it is none such (the cast fails)", EdgesOfNumbersTest::asAKind);
        Sentences.test("7", "UNKNOWN; OUTSIDE.", EdgesOfNumbersTest::asRefusals);
        Sentences.test("8", "The COLOUR of a NUMBER in WAY so-and-so.", EdgesOfNumbersTest::firstAndLastWay);
        Sentences.test("8", "UNKNOWN: way, number.", EdgesOfNumbersTest::wayRefusals);
    }

    // ---- threes

    private static void oneAndTheSame() {
        Check.due("1+1=2", Check.board("2;nnnn;aabb").count(3), 1);
        Check.due("1+1=2, of two colours", Check.board("2;nnnn;abba").count(3), 0);
        Check.due("2+2=4", Check.board("2;nnnn;baba").count(3), 1);
        Check.due("2+2=4, of two colours", Check.board("2;nnnn;baab").count(3), 0);
        Check.due("5+5=10", Check.board("2;nnnnnnnnnn;....a....a").count(3), 1);
        int[] threes = {4, 6, 9, 12, 16, 20, 25};
        for (int numbers = 4; numbers <= 10; numbers++) {
            String text = "2;" + "n".repeat(numbers) + ";" + ".".repeat(numbers);
            Check.due("threes of " + numbers, Check.board(text).count(4), threes[numbers - 4]);
        }
    }

    private static void ifItIsThere() {
        Check.due("2+3 of four", Check.board("2;nnnn;.aa.").count(3), 0);
        Check.due("2+3 of five", Check.board("2;nnnnn;.aa.a").count(3), 1);
        Check.due("5+5 of nine", Check.board("2;nnnnnnnnn;....a....").count(3), 0);
        Check.due("9+1 of nine", Check.board("2;nnnnnnnnn;a.......a").count(3), 0);
        Check.due("9+1 of ten", Check.board("2;nnnnnnnnnn;a.......aa").count(3), 1);
        Check.due("6+6 of ten", Check.board("2;nnnnnnnnnn;.....a...a").count(3), 0);
        SumColours x = Check.board("2;nnnnnn;....aa");
        Check.type(x, "2;nnnn;.aa.");
        x.board();
        Check.due("a sum that was there on the board before", x.count(3), 0);
        Check.due("a part of it", x.number(3, 5), 0);
    }

    private static void sameColour() {
        // 2 is loose and 4 is bare, so that 1+2=3 alone can be bad
        String signs = ".abc";
        for (int one = 0; one < 64; one++) {
            char first = signs.charAt(one / 16);
            char second = signs.charAt(one / 4 % 4);
            char sum = signs.charAt(one % 4);
            String text = "3;nlnn;" + first + second + sum + ".";
            boolean bad = first != '.' && first == second && second == sum;
            Check.due("count(3) of " + text, Check.board(text).count(3), bad ? 1 : 0);
        }
    }

    private static void partsAndMinding() {
        // all of one colour but 4: 1+1=2 and 1+2=3 are the threes that can be bad
        for (int one = 0; one < 125; one++) {
            char k1 = KINDS.charAt(one / 25);
            char k2 = KINDS.charAt(one / 5 % 5);
            char k3 = KINDS.charAt(one % 5);
            boolean twice = "nlf".indexOf(k1) >= 0 && "ns".indexOf(k2) >= 0;
            boolean sum = "nlf".indexOf(k1) >= 0 && "nlf".indexOf(k2) >= 0 && "nls".indexOf(k3) >= 0;
            String text = "2;" + k1 + k2 + k3 + "n;aaab";
            SumColours x = Check.board(text);
            Check.due("count(3) of " + text, x.count(3), (twice ? 1 : 0) + (sum ? 1 : 0));
            Check.due("number(1, 5) of " + text, x.number(1, 5), (twice ? 1 : 0) + (sum ? 1 : 0));
            Check.due("number(3, 5) of " + text, x.number(3, 5), sum ? 1 : 0);
        }
    }

    private static void neverParts() {
        int[] part = {1, 1, 1, 0, 0};
        for (int kind = 0; kind < 5; kind++) {
            char letter = KINDS.charAt(kind);
            Check.due("first, " + letter, Check.board("2;" + letter + "lnn;aaab").count(3), part[kind]);
            Check.due("second, " + letter, Check.board("2;nn" + letter + "n;abaa").count(3), part[kind]);
            Check.due("both, " + letter, Check.board("2;n" + letter + "nn;baba").count(3), part[kind]);
        }
    }

    private static void minding() {
        int[] twice = {1, 0, 0, 1, 0};
        int[] unlike = {1, 1, 0, 1, 0};
        for (int kind = 0; kind < 5; kind++) {
            char letter = KINDS.charAt(kind);
            Check.due("twice one, " + letter, Check.board("2;nnn" + letter + ";baba").count(3), twice[kind]);
            Check.due("two unlike, " + letter, Check.board("2;nnn" + letter + ";abaa").count(3), unlike[kind]);
        }
    }

    // ---- of a number

    private static void waysFromNought() {
        SumColours x = Check.board("3;ffff;.c..");
        Check.due("below the first", x.way(-1, 1), SumColours.UNKNOWN);
        for (int way = 0; way < 27; way++) {
            int[] tints = {way / 9, 2, way / 3 % 3, way % 3};
            for (int number = 1; number <= 4; number++) {
                Check.due("way(" + way + ", " + number + ")", x.way(way, number), tints[number - 1]);
            }
        }
        Check.due("above the last", x.way(27, 1), SumColours.UNKNOWN);
    }

    private static void notSure() {
        SumColours two = Check.board("2;nnnn;....");
        SumColours none = Check.board("2;nnnn;aa..");
        SumColours one = Check.board("2;nnnn;a...");
        int[] tints = {0, 1, 1, 0};
        for (int number = 1; number <= 4; number++) {
            Check.due("two ways, " + number, two.number(number, 2), SumColours.NONE);
            Check.due("no ways, " + number, none.number(number, 2), SumColours.NONE);
            Check.due("one way, " + number, one.number(number, 2), tints[number - 1]);
        }
        // 2+2 bars colour 0 for 4, so 1 and 3 are not both 1: three ways
        SumColours three = Check.board("2;fffs;.a..");
        int[] sure = {SumColours.NONE, 0, SumColours.NONE, 1};
        for (int number = 1; number <= 4; number++) {
            Check.due("in two of three ways the same, " + number, three.number(number, 2), sure[number - 1]);
        }
    }

    private static void sure() {
        SumColours all = Check.board("3;ffff;abca");
        int[] tints = {0, 1, 2, 0};
        for (int number = 1; number <= 4; number++) {
            Check.due("none is bare, " + number, all.number(number, 2), tints[number - 1]);
        }
        SumColours x = Check.board("3;ffff;c...");
        Check.due("painted", x.number(1, 2), 2);
        Check.due("bare", x.number(2, 2), SumColours.NONE);
        SumColours before = Check.board("3;ffff;.a..");
        Check.due("bare, ahead of a painted one", before.number(1, 2), SumColours.NONE);
        Check.due("bare, behind a painted one", before.number(3, 2), SumColours.NONE);
        x.paint(2, 1);
        Check.due("painted now", x.number(2, 2), 1);
        x.wipe(1);
        Check.due("wiped now", x.number(1, 2), SumColours.NONE);
        SumColours bad = Check.board("3;nnnn;cc.a");
        Check.due("painted, but no ways", bad.number(1, 2), SumColours.NONE);
        bad.be(2, 1);
        Check.due("painted, and ways now", bad.number(1, 2), 2);
    }

    private static void sortsAsBits() {
        // of each set of answers to 0, 1, 2: which kinds are left
        int[] could = {11, 9, 7};
        for (int answers = 0; answers < 8; answers++) {
            SumColours x = Check.board("2;oooo;....");
            int sorts = 31;
            for (int what = 0; what < 3; what++) {
                boolean so = (answers >> what & 1) == 1;
                x.see(4, what, so);
                sorts &= so ? could[what] : 31 - could[what];
                Check.due("answers " + answers + " up to " + what, x.number(4, 3), sorts);
            }
            Check.due("of another number", x.number(3, 3), 31);
        }
        for (int place = 0; place < 6; place++) {
            SumColours x = Check.board("2;oooo;....");
            for (int seen = 0; seen < 6; seen++) {
                x.see(4, seen == place ? 0 : 2, true);
            }
            Check.due("one of six tells, at " + place, x.number(4, 3), 3);
        }
    }

    private static void allSortsAtFirst() {
        SumColours x = Check.board("2;nlfso;.....");
        for (int number = 1; number <= 5; number++) {
            Check.due("nothing seen of " + number, x.number(number, 3), 31);
        }
        x.see(2, 2, true);
        x.see(2, 2, false);
        Check.due("nothing can be so", x.number(2, 3), 0);
        x.forget();
        Check.due("forgotten", x.number(2, 3), 31);
    }

    private static void fewestLeft() {
        checkAsk(0, "");
        checkAsk(1, "0+");
        checkAsk(2, "0-");
        checkAsk(2, "1+");
        checkAsk(0, "1-");
        checkAsk(0, "2+");
        checkAsk(0, "2-");
        checkAsk(2, "0+1+");
        checkAsk(1, "0+2+");
        checkAsk(0, "1-2+");
        checkAsk(0, "0+1+2+");
        checkAsk(0, "0-2-");
        checkAsk(SumColours.NONE, "0-1+");
        checkAsk(SumColours.NONE, "2+2-");
    }

    private static void checkAsk(int due, String seen) {
        SumColours x = Check.board("2;nnnn;....");
        for (int place = 0; place < seen.length(); place += 2) {
            x.see(1, seen.charAt(place) - '0', seen.charAt(place + 1) == '+');
        }
        Check.due("ask, seen " + seen, x.number(1, 4), due);
    }

    private static void nothingToAsk() {
        SumColours x = Check.board("2;nnnn;....");
        x.see(1, 0, false);
        Check.due("two sorts are left", x.number(1, 4), 2);
        x.see(1, 2, true);
        Check.due("one sort is left: the least", x.number(1, 4), 0);
        x.see(1, 1, true);
        Check.due("none is left", x.number(1, 4), SumColours.NONE);
        Check.due("of another number", x.number(2, 4), 0);
        x.be(1, 4);
        Check.due("of which kind it is does not count", x.number(1, 4), SumColours.NONE);
    }

    private static void loneIsShy() {
        SumColours x = Check.board("2;nlfso;.....");
        for (int number = 1; number <= 5; number++) {
            Check.due("as(" + number + ", 0)", x.as(number, 0), number);
        }
        Check.due("a lone one as a shy one", x.as(5, 3), 5);
        Check.due("a shy one as a lone one", x.as(4, 4), SumColours.NONE);
        Check.due("a lone one as a free one", x.as(5, 2), SumColours.NONE);
    }

    private static void namedFromOne() {
        for (int numbers = 4; numbers <= 10; numbers++) {
            SumColours x = Check.board("2;" + "f".repeat(numbers) + ";" + "a".repeat(numbers));
            for (int number : new int[] {0, 1, numbers, numbers + 1}) {
                boolean is = number >= 1 && number <= numbers;
                int unknown = SumColours.UNKNOWN;
                String of = " of " + number + " among " + numbers;
                Check.due("number()" + of, x.number(number, 1), is ? 0 : unknown);
                Check.due("as()" + of, x.as(number, 2), is ? number : unknown);
                Check.due("way()" + of, x.way(0, number), is ? 0 : unknown);
                Check.due("be()" + of, x.be(number, 2), is ? 2 : unknown);
                Check.due("odds()" + of, x.odds(number, 0, 0), is ? 1 : unknown);
                Check.due("see()" + of, x.see(number, 0, true), is ? x.count(6) : unknown);
                Check.due("paint()" + of, x.paint(number, 1), is ? 0 : unknown);
                Check.due("wipe()" + of, x.wipe(number), is ? 1 : unknown);
            }
        }
    }

    private static void noneBare() {
        SumColours x = Check.board("3;ffff;.abc");
        int[] tints = {SumColours.NONE, 0, 1, 2};
        for (int number = 1; number <= 4; number++) {
            Check.due("colour of " + number, x.number(number, 1), tints[number - 1]);
        }
        x.paint(1, 0);
        Check.due("painted", x.number(1, 1), 0);
        x.wipe(1);
        Check.due("wiped", x.number(1, 1), SumColours.NONE);
    }

    private static void onceInEach() {
        SumColours x = Check.board("2;nnnn;aabb");
        // 1 is twice a part of 1+1=2, and that is one three
        Check.due("both parts", x.number(1, 5), 1);
        Check.due("the sum", x.number(2, 5), 1);
        Check.due("in none", x.number(3, 5), 0);
        SumColours all = Check.board("2;nnnnnnnnnn;aaaaaaaaaa");
        int[] bad = {9, 9, 8, 8, 7, 7, 6, 6, 5, 5};
        for (int number = 1; number <= 10; number++) {
            Check.due("all of one colour, " + number, all.number(number, 5), bad[number - 1]);
        }
        all.wipe(10);
        Check.due("10 is bare", all.number(10, 5), 0);
    }

    private static void numberRefusals() {
        SumColours x = Check.board("2;nnnnnnnnnn;..........");
        for (int number : FAR) {
            Check.due("number(" + number + ", 0)", x.number(number, 0), SumColours.UNKNOWN);
            Check.due("number(" + number + ", 6)", x.number(number, 6), SumColours.UNKNOWN);
        }
        Check.due("number(0, -1)", x.number(0, -1), SumColours.UNKNOWN);
        int[] first = {0, -1, -1, 31, 0, 0};
        for (int what = -3; what <= 9; what++) {
            boolean is = what >= 0 && what <= 5;
            Check.due("number(10, " + what + ")", x.number(10, what), is ? first[what] : SumColours.OUTSIDE);
        }
        for (int what : FAR) {
            Check.due("number(1, " + what + ")", x.number(1, what), SumColours.OUTSIDE);
        }
    }

    // ---- as and way

    private static void asAKind() {
        SumColours x = Check.board("2;osflnosfln;..........");
        String[] such = {"nlfso", "l", "f", "so", "o"};
        for (int number = 1; number <= 10; number++) {
            for (int kind = 0; kind < 5; kind++) {
                boolean is = such[kind].indexOf("osflnosfln".charAt(number - 1)) >= 0;
                Check.due("as(" + number + ", " + kind + ")", x.as(number, kind), is ? number : SumColours.NONE);
            }
        }
    }

    private static void asRefusals() {
        SumColours x = Check.board("2;nnnn;....");
        for (int kind = -3; kind <= 8; kind++) {
            boolean is = kind >= 0 && kind <= 4;
            int due = !is ? SumColours.OUTSIDE : kind == 0 ? 4 : SumColours.NONE;
            Check.due("as(4, " + kind + ")", x.as(4, kind), due);
            Check.due("as(5, " + kind + ")", x.as(5, kind), SumColours.UNKNOWN);
            Check.due("as(0, " + kind + ")", x.as(0, kind), SumColours.UNKNOWN);
        }
        for (int far : FAR) {
            Check.due("as(" + far + ", 0)", x.as(far, 0), SumColours.UNKNOWN);
            Check.due("as(1, " + far + ")", x.as(1, far), SumColours.OUTSIDE);
        }
    }

    private static void firstAndLastWay() {
        SumColours x = Check.board("3;ffffffffff;..........");
        Check.due("ways(0)", x.ways(0), 59049);
        for (int number = 1; number <= 10; number++) {
            Check.due("the first way, " + number, x.way(0, number), 0);
            Check.due("the last way, " + number, x.way(59048, number), 2);
            Check.due("the second way, " + number, x.way(1, number), number == 10 ? 1 : 0);
        }
        Check.due("one above the last", x.way(59049, 10), SumColours.UNKNOWN);
        SumColours only = Check.board("2;nnnn;...b");
        int[] tints = {1, 0, 0, 1};
        for (int number = 1; number <= 4; number++) {
            Check.due("the only way, " + number, only.way(0, number), tints[number - 1]);
        }
        Check.due("above the only way", only.way(1, 1), SumColours.UNKNOWN);
    }

    private static void wayRefusals() {
        SumColours x = Check.board("2;nnnn;....");
        for (int way = -2; way <= 4; way++) {
            for (int number = -1; number <= 6; number++) {
                boolean is = (way == 0 || way == 1) && number >= 1 && number <= 4;
                int due = !is ? SumColours.UNKNOWN : number == 1 || number == 4 ? way : 1 - way;
                Check.due("way(" + way + ", " + number + ")", x.way(way, number), due);
            }
        }
        for (int far : FAR) {
            Check.due("way(" + far + ", 1)", x.way(far, 1), SumColours.UNKNOWN);
            Check.due("way(0, " + far + ")", x.way(0, far), SumColours.UNKNOWN);
        }
        SumColours none = Check.board("2;nnnnn;.....");
        Check.due("no ways", none.way(0, 1), SumColours.UNKNOWN);
        SumColours painted = Check.board("2;nnnn;aaaa");
        Check.due("no ways, all painted", painted.way(0, 1), SumColours.UNKNOWN);
    }
}
