/** Promises 19 to 22: image, restore, count, digest. */
public final class ToldTest {
    public static void main(String[] args) {
        imageAndRestore();
        theLatestImage();
        imageKeepsWhatIsSeen();
        count();
        digest();
        Check.end("ToldTest");
    }

    private static void imageAndRestore() {
        SumColours x = Check.board("3;nlfso;ab...");
        Check.due("restore() before an image", x.restore(), SumColours.STATE);
        x.paint(3, 2);
        x.wipe(1);
        x.see(2, 1, true);
        Check.due("image()", x.image(), 2);
        long digest = x.digest();
        x.be(2, 4);
        x.paint(1, 1);
        x.wipe(3);
        x.paint(4, 0);
        x.see(2, 0, false);
        x.see(1, 0, false);
        // 3 and 5 are bare; 2, 3 and 5 mind nothing, and 4 is of another colour than 1
        Check.due("ways(0) of what is changed", x.ways(0), 9);
        Check.due("restore()", x.restore(), 2);
        Check.due("kind", x.number(2, 0), 1);
        Check.due("colour of 1", x.number(1, 1), SumColours.NONE);
        Check.due("colour of 3", x.number(3, 1), 2);
        Check.due("colour of 4", x.number(4, 1), SumColours.NONE);
        Check.due("changes", x.count(5), 2);
        Check.due("seen", x.count(6), 1);
        Check.due("sorts of 2", x.number(2, 3), 9);
        Check.due("sorts of 1", x.number(1, 3), 31);
        Check.due("all as it was", x.digest(), digest);
        x.paint(5, 0);
        x.forget();
        Check.due("restore() again", x.restore(), 2);
        Check.due("all as it was, again", x.digest(), digest);
        Check.type(x, "2;n");
        x.restore();
        Check.due("the page is not of the image", x.count(7), 3);
        Check.due("nor is how often a board was read", x.count(8), 1);
    }

    private static void theLatestImage() {
        SumColours x = Check.board("2;nnnn;....");
        Check.due("image() with no change", x.image(), 0);
        x.paint(1, 0);
        Check.due("image() of one change", x.image(), 1);
        x.paint(1, 1);
        Check.due("restore()", x.restore(), 1);
        Check.due("colour", x.number(1, 1), 0);
        Check.type(x, "2;nnnn;....");
        Check.due("board(), alike", x.board(), 4);
        Check.due("restore(), another board since", x.restore(), SumColours.STATE);
        Check.due("image() of the other", x.image(), 0);
        Check.due("restore() of the other", x.restore(), 0);
    }

    private static void imageKeepsWhatIsSeen() {
        SumColours x = Check.board("2;nnnn;....");
        x.see(1, 0, true);
        x.see(2, 1, false);
        x.image();
        x.forget();
        x.see(3, 2, false);
        x.see(4, 0, true);
        x.see(4, 1, true);
        Check.due("restore()", x.restore(), 0);
        Check.due("count(6)", x.count(6), 2);
        int[] sorts = {11, 22, 31, 31};
        for (int number = 1; number <= 4; number++) {
            Check.due("sorts of " + number, x.number(number, 3), sorts[number - 1]);
        }
        x.forget();
        x.image();
        x.see(1, 1, true);
        x.restore();
        Check.due("an image of nothing seen", x.count(6), 0);
    }

    private static void count() {
        int[] threes = {4, 6, 9, 12, 16, 20, 25};
        for (int numbers = 4; numbers <= 10; numbers++) {
            String text = "3;" + "n".repeat(numbers) + ";" + "a".repeat(numbers);
            SumColours all = Check.board(text);
            Check.due("count(0) of " + text, all.count(0), numbers);
            Check.due("count(3) of " + text, all.count(3), threes[numbers - 4]);
            Check.due("count(4) of " + text, all.count(4), threes[numbers - 4]);
        }
        SumColours x = Check.board("2;nnnnn;a.b.a");
        x.see(1, 1, true);
        x.wipe(1);
        x.paint(2, 1);
        x.paint(4, 1);
        Check.type(x, "3;");
        int[] due = {5, 2, 1, 1, 6, 3, 1, 2, 1};
        for (int what = 0; what <= 8; what++) {
            Check.due("count(" + what + ")", x.count(what), due[what]);
        }
        int[] outside = {-1, 9, Integer.MIN_VALUE, Integer.MAX_VALUE};
        for (int what : outside) {
            Check.due("count(" + what + ")", x.count(what), SumColours.OUTSIDE);
            Check.due("count(" + what + ") without a board", new SumColours().count(what), SumColours.OUTSIDE);
        }
    }

    private static void digest() {
        SumColours none = new SumColours();
        Check.due("digest() without a board", none.digest(), digestOf(none, ""));
        Check.type(none, "2;n~ ");
        Check.due("digest() of a page", none.digest(), digestOf(none, "2;n~ "));
        // 1321 times 31 to the ninth: nothing but nine counts of 0
        Check.due("digest() of a new object", new SumColours().digest(), 1321L * 26439622160671L);
        SumColours x = Check.board("3;nlfsonl;ab.....");
        x.see(3, 2, false);
        x.paint(5, 2);
        Check.type(x, "3;o");
        Check.due("digest() of a board and a page", x.digest(), digestOf(x, "3;o"));
        long before = x.digest();
        Check.due("digest() again", x.digest(), before);
    }

    private static long digestOf(SumColours x, String page) {
        long h = 1321;
        int numbers = x.count(0);
        for (int number = 1; number <= numbers; number++) {
            for (int what = 0; what < 6; what++) {
                h = h * 31 + x.number(number, what);
            }
            h = h * 31 + x.odds(number, 0, 0);
            h = h * 31 + x.odds(number, 0, 1);
        }
        if (numbers > 0) {
            h = h * 31 + x.ways(0);
            h = h * 31 + x.ways(1);
            h = h * 31 + x.ways(2);
            h = h * 31 + x.mend();
            h = h * 31 + x.wins(0);
            h = h * 31 + x.wins(1);
        }
        for (char letter : page.toCharArray()) {
            h = h * 31 + letter;
        }
        for (int what = 0; what < 9; what++) {
            h = h * 31 + x.count(what);
        }
        return h;
    }
}
