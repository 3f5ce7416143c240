/** Every call with all arguments round the edges, on boards of every size, held against the plain model. */
public final class SweepTest {
    private static final int[] FAR = {Integer.MIN_VALUE, Integer.MIN_VALUE + 1, 65536, Integer.MAX_VALUE};
    private static final String[] BOARDS = {
        "", "2;nnnn;....", "2;nnnn;aa..", "3;nlfs;abca", "2;fffs;.a..", "3;fffs;.a..", "3;nlfso;.....", "2;snlno;a.b.a",
        "2;nnnnnn;.b....", "3;lnlnln;a.c..b", "2;lnfnsnl;..a...b", "3;nnnnnnnn;........", "2;nfnlsonn;a....b..",
        "3;nlnsnfnon;.a..b..c.", "2;nnlnslnfno;..........", "3;nnnnnnnnnn;a....b...c"
    };

    /** Each board is swept as it was read, then changed, then restored. */
    private static final String[] STAGES = {"", ", changed", ", restored"};

    private final SumColours x = new SumColours();
    private final Model model = new Model();
    private int calls = 0;

    private SweepTest(String text, int stage) {
        read(text);
        if (stage > 0) {
            askAhead();
            change();
        }
        if (stage > 1) {
            askAhead();
            due("restore()", x.restore(), model.restore());
        }
    }

    /** What was counted ahead of a change has to be counted again behind it. */
    private void askAhead() {
        due("ways(0)", x.ways(0), model.ways(0));
        due("ways(2)", x.ways(2), model.ways(2));
    }

    public static void main(String[] args) {
        for (String text : BOARDS) {
            for (int stage = 0; stage < STAGES.length; stage++) {
                Check.head("board '" + text + "'" + STAGES[stage] + ": ");
                sweep(text, stage);
            }
        }
        Check.head("");
        Check.end("SweepTest");
    }

    /** With many objects, for each of them is promised for 512 calls alone. */
    private static void sweep(String text, int stage) {
        for (int number : round(1, 10)) {
            SweepTest one = new SweepTest(text, stage);
            one.askOf(number);
            one.endInTime();
        }
        for (int what : round(0, 2)) {
            SweepTest one = new SweepTest(text, stage);
            one.askPaintings(what);
            one.endInTime();
        }
        SweepTest one = new SweepTest(text, stage);
        one.askOfAll();
        one.endInTime();
    }

    private void due(String call, long got, long want) {
        calls++;
        Check.due(call, got, want);
    }

    private void endInTime() {
        Check.due("more calls than are promised", calls > 512 ? 1 : 0, 0);
    }

    private void read(String text) {
        for (char letter : text.toCharArray()) {
            due("letter " + letter, x.letter(letter), model.letter(letter));
        }
        due("board()", x.board(), model.board());
    }

    private void change() {
        int numbers = model.count(0);
        due("image()", x.image(), model.image());
        due("see", x.see(1, 0, true), model.see(1, 0, true));
        due("see", x.see(numbers, 1, false), model.see(numbers, 1, false));
        due("see", x.see(2, 2, true), model.see(2, 2, true));
        due("see", x.see(2, 1, true), model.see(2, 1, true));
        due("paint", x.paint(1, 1), model.paint(1, 1));
        due("paint", x.paint(numbers, 0), model.paint(numbers, 0));
        due("wipe", x.wipe(2), model.wipe(2));
        due("be", x.be(3, 1), model.be(3, 1));
        due("be", x.be(numbers, 3), model.be(numbers, 3));
        due("letter", x.letter('3'), model.letter('3'));
    }

    /** From two below the least to two above the greatest that any call takes, and far off. */
    private static int[] round(int least, int greatest) {
        int[] row = new int[greatest - least + 5 + FAR.length];
        for (int place = 0; place < greatest - least + 5; place++) {
            row[place] = least - 2 + place;
        }
        System.arraycopy(FAR, 0, row, greatest - least + 5, FAR.length);
        return row;
    }

    private void askOfAll() {
        for (int what : round(0, 8)) {
            due("ways(" + what + ")", x.ways(what), model.ways(what));
            due("wins(" + what + ")", x.wins(what), model.wins(what));
            due("count(" + what + ")", x.count(what), model.count(what));
        }
        due("mend()", x.mend(), model.mend());
        due("fault()", x.fault(), model.fault());
        due("digest()", x.digest(), model.digest());
    }

    private void askPaintings(int what) {
        for (int times : round(1, 40)) {
            due("paintings(" + times + ", 7, " + what + ")", x.paintings(times, 7, what),
                model.paintings(times, 7, what));
        }
        for (int seed : round(0, 0)) {
            due("paintings(2, " + seed + ", " + what + ")", x.paintings(2, seed, what),
                model.paintings(2, seed, what));
        }
    }

    private void askOf(int number) {
        for (int what : round(0, 5)) {
            String args = "(" + number + ", " + what + ")";
            due("number" + args, x.number(number, what), model.number(number, what));
            due("as" + args, x.as(number, what), model.as(number, what));
            due("odds(" + number + ", " + what + ", 0)", x.odds(number, what, 0), model.odds(number, what, 0));
            due("odds(" + number + ", " + what + ", 1)", x.odds(number, what, 1), model.odds(number, what, 1));
            due("odds(" + number + ", 0, " + what + ")", x.odds(number, 0, what), model.odds(number, 0, what));
        }
        int ways = Math.max(0, model.ways(0));
        int[] edges = {Integer.MIN_VALUE, -1, 0, 1, ways / 2, ways - 2, ways - 1, ways, ways + 1, Integer.MAX_VALUE};
        for (int way : edges) {
            due("way(" + way + ", " + number + ")", x.way(way, number), model.way(way, number));
        }
    }
}
