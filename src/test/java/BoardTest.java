/** Promises 1 to 5: a new object, letter, blank, fault, board. */
public final class BoardTest {
    public static void main(String[] args) {
        newObject();
        letter();
        blank();
        fault();
        board();
        boardTakesAllThatWas();
        Check.end("BoardTest");
    }

    private static void newObject() {
        SumColours x = new SumColours();
        for (int what = 0; what <= 8; what++) {
            Check.due("new: count(" + what + ")", x.count(what), 0);
        }
        Check.due("new: number(1, 0)", x.number(1, 0), SumColours.UNKNOWN);
        Check.due("new: ways(0)", x.ways(0), SumColours.STATE);
        Check.due("new: mend()", x.mend(), SumColours.STATE);
        Check.due("new: wins(0)", x.wins(0), SumColours.STATE);
        Check.due("new: image()", x.image(), SumColours.STATE);
        Check.due("new: restore()", x.restore(), SumColours.STATE);
        Check.due("new: board()", x.board(), SumColours.STATE);
    }

    private static void letter() {
        SumColours x = new SumColours();
        int[] outside = {31, 127, 0, -1, Integer.MIN_VALUE, Integer.MAX_VALUE};
        for (int code : outside) {
            Check.due("letter(" + code + ")", x.letter(code), SumColours.OUTSIDE);
        }
        Check.due("count(7) after refusals", x.count(7), 0);
        for (int had = 0; had < 26; had++) {
            Check.due("letter " + (had + 1), x.letter(had % 2 == 0 ? 32 : 126), had + 1);
        }
        Check.due("the 27th letter", x.letter(65), SumColours.FULL);
        Check.due("OUTSIDE comes before FULL", x.letter(31), SumColours.OUTSIDE);
        Check.due("count(7) of a full page", x.count(7), 26);
    }

    private static void blank() {
        SumColours x = new SumColours();
        Check.due("blank() of an empty page", x.blank(), 0);
        Check.type(x, "2;n");
        Check.due("blank()", x.blank(), 3);
        Check.due("blank() again", x.blank(), 0);
        Check.due("count(7)", x.count(7), 0);
        Check.type(x, "2;");
        Check.due("what was blanked is gone: fault()", x.fault(), 2);
        x.letter(';');
        Check.due("what was blanked is gone: fault() then", x.fault(), 2);
    }

    private static void fault() {
        String[] texts = {
            "", "2", "3", "1", "4", ";", "2;", "2n", "3:", "2;n", "2;N", "2;nlfso", "2;x", "2;nnn;", "2;nnnn;",
            "2;nnnnnnnnnn", "2;nnnnnnnnnnn", "2;nnnnnnnnnn;", "2;nnnn;....", "2;nnnn;.....", "2;nnnn;abc",
            "3;nnnn;abc", "3;nnnn;abcd", "2;nnnn;;", "2;nnnn;A", "2;nnxn;....", "2;nnn.", "4;nnnn;....",
            "2;nnnna", "3;nlfsonlfso;abc.abc.ab", "3;nlfsonlfso;abc.abc.abc", "2;n;", "2;;", "22", " 2", "2;nnnn;n"
        };
        int[] due = {
            0, 1, 1, 0, 0, 0, 2, 1, 1, 3, 2, 7, 2, 5, 7,
            12, 12, 13, 11, 11, 9,
            10, 10, 7, 7, 4, 5, 0,
            6, 23, 23, 3, 2, 1, 0, 7
        };
        for (int place = 0; place < texts.length; place++) {
            Check.due("fault() of '" + texts[place] + "'", Check.faultOf(texts[place]), due[place]);
        }
    }

    private static void board() {
        String[] none = {
            "", "2", "2;nnnn", "2;nnnn;", "2;nnnn;...", "2;nnnn;.....", "2;nnn;...", "2;nnnn;..c.",
            "4;nnnn;....", "2;nnnnnnnnnnn;...........", "2;nnxn;....", "2:nnnn;....", "2;nnnn:...."
        };
        for (String text : none) {
            SumColours x = new SumColours();
            Check.type(x, text);
            int letters = x.count(7);
            Check.due("board() of '" + text + "'", x.board(), SumColours.STATE);
            Check.due("letters after a refused board()", x.count(7), letters);
            Check.due("boards after a refused board()", x.count(8), 0);
        }
        SumColours x = Check.board("3;nlfsonlfso;abc.abc.ab");
        Check.due("count(0)", x.count(0), 10);
        Check.due("count(1)", x.count(1), 3);
        Check.due("count(7)", x.count(7), 0);
        int[] tints = {0, 1, 2, -1, 0, 1, 2, -1, 0, 1};
        for (int number = 1; number <= 10; number++) {
            Check.due("kind of " + number, x.number(number, 0), (number - 1) % 5);
            Check.due("colour of " + number, x.number(number, 1), tints[number - 1]);
        }
    }

    private static void boardTakesAllThatWas() {
        SumColours x = Check.board("3;nnnnnn;......");
        x.paint(1, 2);
        x.see(1, 1, false);
        x.image();
        Check.due("ways(2) of the board that will be gone", x.ways(2), 6);
        Check.type(x, "2;fff;");
        Check.due("board() of no board", x.board(), SumColours.STATE);
        Check.due("a refused board() leaves changes", x.count(5), 1);
        Check.due("a refused board() leaves the image", x.restore(), 1);
        x.blank();
        Check.type(x, "2;ffff;ab..");
        Check.due("board()", x.board(), 4);
        int[] due = {4, 2, 2, 0, 4, 0, 0, 0, 2};
        for (int what = 0; what <= 8; what++) {
            Check.due("count(" + what + ") of another board", x.count(what), due[what]);
        }
        Check.due("sorts of another board", x.number(1, 3), 31);
        Check.due("the image is of a board that is gone", x.restore(), SumColours.STATE);
        Check.due("a number that is gone", x.number(5, 0), SumColours.UNKNOWN);
        Check.due("a colour that is gone", x.paint(1, 2), SumColours.OUTSIDE);
        Check.due("ways(0) of another board", x.ways(0), 4);
        Check.due("ways(2) of another board", x.ways(2), 4);
    }
}
