/** Promises 16 to 18: see, forget, paintings. */
public final class SeenTest {
    public static void main(String[] args) {
        see();
        seeByKind();
        forget();
        paintings();
        seeds();
        paintingsRefusals();
        Check.end("SeenTest");
    }

    private static void see() {
        SumColours x = Check.board("2;nnnn;....");
        Check.due("see(0, 9, true)", x.see(0, 9, true), SumColours.UNKNOWN);
        Check.due("see(5, 0, true)", x.see(5, 0, true), SumColours.UNKNOWN);
        Check.due("see(1, 3, true)", x.see(1, 3, true), SumColours.OUTSIDE);
        Check.due("see(1, -1, true)", x.see(1, -1, true), SumColours.OUTSIDE);
        Check.due("count(6) after refusals", x.count(6), 0);
        for (int had = 0; had < 6; had++) {
            Check.due("see() " + (had + 1), x.see(1, 2, true), had + 1);
        }
        Check.due("the seventh", x.see(1, 2, false), SumColours.FULL);
        Check.due("the seventh, OUTSIDE first", x.see(1, 3, false), SumColours.OUTSIDE);
        Check.due("the seventh, UNKNOWN first", x.see(5, 3, false), SumColours.UNKNOWN);
        Check.due("sorts after a refusal", x.number(1, 3), 7);
        Check.due("count(6)", x.count(6), 6);
        Check.due("count(5)", x.count(5), 0);
        Check.due("see() without a board", new SumColours().see(1, 0, true), SumColours.UNKNOWN);
    }

    private static void seeByKind() {
        int[] could = {11, 9, 7};
        for (int what = 0; what < 3; what++) {
            SumColours x = Check.board("2;nnnn;....");
            x.see(3, what, true);
            Check.due("sorts, " + what + " could", x.number(3, 3), could[what]);
            x.forget();
            x.see(3, what, false);
            Check.due("sorts, " + what + " could not", x.number(3, 3), 31 - could[what]);
            Check.due("sorts of another number", x.number(2, 3), 31);
        }
    }

    private static void forget() {
        SumColours x = Check.board("2;nnnn;....");
        Check.due("forget() of nothing", x.forget(), 0);
        x.see(1, 0, true);
        x.see(2, 0, false);
        Check.due("forget()", x.forget(), 2);
        Check.due("forget() again", x.forget(), 0);
        Check.due("sorts", x.number(1, 3), 31);
        Check.due("see() then", x.see(1, 0, false), 1);
        Check.due("sorts then", x.number(1, 3), 20);
        Check.due("forget() without a board", new SumColours().forget(), 0);
    }

    /** From the seed 1 the draws are 16838, 5758, 10113, 17515, 31051, 5627, 23010, 7419, 16212, 4086. */
    private static void paintings() {
        SumColours x = Check.board("2;nnnn;....");
        checkPaintings(x, 1, 1, 0, 1); // aabb: 1+1
        checkPaintings(x, 2, 1, 0, 3); // bbab: 1+1, 2+2
        SumColours four = Check.board("2;nnnn;abb.");
        checkPaintings(four, 1, 1, 1, 0);
        checkPaintings(four, 3, 1, 2, 1);
        checkPaintings(four, 10, 1, 5, 5);
        SumColours three = Check.board("3;fffs;acb.");
        checkPaintings(three, 1, 1, 0, 1);
        checkPaintings(three, 6, 1, 4, 2);
        SumColours all = Check.board("2;nnnn;aaaa");
        checkPaintings(all, 40, 7, 0, 160);
        Check.due("paintings() tell, they do not paint", x.count(2), 4);
        Check.due("they are no changes", x.count(5), 0);
    }

    private static void checkPaintings(SumColours x, int times, int seed, int clean, int bad) {
        Check.due("paintings(" + times + ", " + seed + ", 0)", x.paintings(times, seed, 0), clean);
        Check.due("paintings(" + times + ", " + seed + ", 1)", x.paintings(times, seed, 1), bad);
    }

    private static void seeds() {
        SumColours one = Check.board("2;nnnn;abb.");
        Check.due("the seed behind 0", one.paintings(1, 0, 2), 12345);
        Check.due("the seed behind 1", one.paintings(1, 1, 2), 1103527590);
        Check.due("the seed behind the greatest", one.paintings(1, Integer.MAX_VALUE, 2), 1043980748);
        long seed = 99;
        SumColours three = Check.board("3;nnnn;.b..");
        for (int draw = 0; draw < 120; draw++) {
            seed = (1103515245L * seed + 12345L) % (1L << 31);
        }
        Check.due("the seed behind 120 draws", three.paintings(40, 99, 2), seed);
        Check.due("no draw, if none is bare", Check.board("2;nnnn;abba").paintings(40, 99, 2), 99);
    }

    private static void paintingsRefusals() {
        SumColours x = Check.board("2;nnnn;....");
        SumColours none = new SumColours();
        int[][] outside = {
            {0, 1, 0}, {41, 1, 0}, {-1, 1, 0}, {Integer.MAX_VALUE, 1, 0}, {1, -1, 0}, {1, Integer.MIN_VALUE, 0},
            {1, 1, -1}, {1, 1, 3}
        };
        for (int[] args : outside) {
            String call = "paintings(" + args[0] + ", " + args[1] + ", " + args[2] + ")";
            Check.due(call, x.paintings(args[0], args[1], args[2]), SumColours.OUTSIDE);
            Check.due(call + " without a board", none.paintings(args[0], args[1], args[2]), SumColours.OUTSIDE);
        }
        Check.due("paintings() without a board", none.paintings(1, 1, 0), SumColours.STATE);
    }
}
