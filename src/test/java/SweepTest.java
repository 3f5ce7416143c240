/** Every call with all arguments round the edges, on boards of every size, held against the plain model. */
public final class SweepTest {
    private static final int[] FAR = {Integer.MIN_VALUE, Integer.MIN_VALUE + 1, 65536, Integer.MAX_VALUE};
    private static final String[] BOARDS = {
        "", "2;nnnn;....", "2;nnnn;aa..", "3;nlfs;abca", "2;fffs;.a..", "3;fffs;.a..", "3;nlfso;.....", "2;snlno;a.b.a",
        "2;nnnnnn;.b....", "3;lnlnln;a.c..b", "2;lnfnsnl;..a...b", "3;nnnnnnnn;........", "2;nfnlsonn;a....b..",
        "3;nlnsnfnon;.a..b..c.", "2;nnlnslnfno;..........", "3;nnnnnnnnnn;a....b...c"
    };

    private final SumColours x = new SumColours();
    private final Model model = new Model();
    private final String text;

    private SweepTest(String text) {
        this.text = text;
    }

    public static void main(String[] args) {
        for (String text : BOARDS) {
            SweepTest one = new SweepTest(text);
            one.read();
            Check.head("board '" + text + "': ");
            one.askAll();
            one.change();
            Check.head("board '" + text + "', changed: ");
            one.askAll();
            Check.due("restore()", one.x.restore(), one.model.restore());
            Check.head("board '" + text + "', restored: ");
            one.askAll();
        }
        Check.end("SweepTest");
    }

    private void read() {
        for (char letter : text.toCharArray()) {
            Check.due("letter " + letter, x.letter(letter), model.letter(letter));
        }
        Check.due("board()", x.board(), model.board());
    }

    private void change() {
        int numbers = model.count(0);
        Check.due("image()", x.image(), model.image());
        Check.due("see", x.see(1, 0, true), model.see(1, 0, true));
        Check.due("see", x.see(numbers, 1, false), model.see(numbers, 1, false));
        Check.due("see", x.see(2, 2, true), model.see(2, 2, true));
        Check.due("see", x.see(2, 1, true), model.see(2, 1, true));
        Check.due("paint", x.paint(1, 1), model.paint(1, 1));
        Check.due("paint", x.paint(numbers, 0), model.paint(numbers, 0));
        Check.due("wipe", x.wipe(2), model.wipe(2));
        Check.due("be", x.be(3, 1), model.be(3, 1));
        Check.due("be", x.be(numbers, 3), model.be(numbers, 3));
        Check.due("letter", x.letter('3'), model.letter('3'));
    }

    /** From two below the least to two above the greatest that any call takes, and far off. */
    private static int[] round(int least, int greatest) {
        int[] row = new int[greatest - least + 5 + FAR.length];
        for (int place = 0; place < greatest - least + 5; place++) {
            row[place] = least - 2 + place;
        }
        System.arraycopy(FAR, 0, row, greatest - least + 5, FAR.length);
        return row;
    }

    private void askAll() {
        for (int number : round(1, 10)) {
            askOf(number);
        }
        for (int what : round(0, 8)) {
            Check.due("ways(" + what + ")", x.ways(what), model.ways(what));
            Check.due("wins(" + what + ")", x.wins(what), model.wins(what));
            Check.due("count(" + what + ")", x.count(what), model.count(what));
        }
        for (int what : round(0, 2)) {
            for (int times : round(1, 40)) {
                Check.due("paintings(" + times + ", 7, " + what + ")", x.paintings(times, 7, what),
                    model.paintings(times, 7, what));
            }
            for (int seed : round(0, 0)) {
                Check.due("paintings(2, " + seed + ", " + what + ")", x.paintings(2, seed, what),
                    model.paintings(2, seed, what));
            }
        }
        Check.due("mend()", x.mend(), model.mend());
        Check.due("fault()", x.fault(), model.fault());
        Check.due("digest()", x.digest(), model.digest());
    }

    private void askOf(int number) {
        for (int what : round(0, 5)) {
            String args = "(" + number + ", " + what + ")";
            Check.due("number" + args, x.number(number, what), model.number(number, what));
            Check.due("as" + args, x.as(number, what), model.as(number, what));
            Check.due("odds(" + number + ", " + what + ", 0)", x.odds(number, what, 0), model.odds(number, what, 0));
            Check.due("odds(" + number + ", " + what + ", 1)", x.odds(number, what, 1), model.odds(number, what, 1));
            Check.due("odds(" + number + ", 0, " + what + ")", x.odds(number, 0, what), model.odds(number, 0, what));
        }
        int ways = Math.max(0, model.ways(0));
        int[] edges = {Integer.MIN_VALUE, -1, 0, 1, ways / 2, ways - 2, ways - 1, ways, ways + 1, Integer.MAX_VALUE};
        for (int way : edges) {
            Check.due("way(" + way + ", " + number + ")", x.way(way, number), model.way(way, number));
        }
    }
}
