/** Promises 9 to 11: paint, wipe, be. */
public final class DoneTest {
    public static void main(String[] args) {
        paint();
        paintRefusals();
        wipe();
        be();
        Check.end("DoneTest");
    }

    private static void paint() {
        SumColours x = Check.board("3;nnnnn;.....");
        Check.due("paint(1, 2)", x.paint(1, 2), 0);
        Check.due("paint(2, 2)", x.paint(2, 2), 1);
        Check.due("paint(3, 2)", x.paint(3, 2), 2);
        Check.due("paint(4, 2)", x.paint(4, 2), 4);
        Check.due("count(5)", x.count(5), 4);
        Check.due("painted already, with another", x.paint(2, 0), 1);
        Check.due("number(2, 1)", x.number(2, 1), 0);
        Check.due("count(5) then", x.count(5), 5);
        Check.due("painted already, with the same", x.paint(2, 0), 1);
        Check.due("each paint() is a change", x.count(5), 6);
        Check.due("count(2)", x.count(2), 1);
    }

    private static void paintRefusals() {
        SumColours x = Check.board("2;nnnn;....");
        Check.due("paint(0, 9)", x.paint(0, 9), SumColours.UNKNOWN);
        Check.due("paint(5, 0)", x.paint(5, 0), SumColours.UNKNOWN);
        Check.due("paint(1, 2)", x.paint(1, 2), SumColours.OUTSIDE);
        Check.due("paint(1, -1)", x.paint(1, -1), SumColours.OUTSIDE);
        Check.due("count(5) after refusals", x.count(5), 0);
        Check.due("count(2) after refusals", x.count(2), 4);
        Check.due("paint() without a board", new SumColours().paint(1, 0), SumColours.UNKNOWN);
        // beyond the 512 calls nothing is promised, but 999 is named as the edge
        for (int change = 1; change <= 999; change++) {
            Check.due("change " + change, x.paint(1, change % 2), 0);
        }
        Check.due("change 1000", x.paint(1, 0), SumColours.FULL);
        Check.due("change 1000, OUTSIDE first", x.paint(1, 2), SumColours.OUTSIDE);
        Check.due("change 1000, wipe", x.wipe(1), SumColours.FULL);
        Check.due("change 1000, wipe, STATE first", x.wipe(2), SumColours.STATE);
        Check.due("nothing was changed", x.number(1, 1), 1);
        Check.due("be() is no change", x.be(1, 2), 0);
    }

    private static void wipe() {
        SumColours x = Check.board("3;nnnn;abc.");
        Check.due("wipe(1)", x.wipe(1), 0);
        Check.due("wipe(3)", x.wipe(3), 2);
        Check.due("wipe(3) again", x.wipe(3), SumColours.STATE);
        Check.due("wipe(4)", x.wipe(4), SumColours.STATE);
        Check.due("wipe(0)", x.wipe(0), SumColours.UNKNOWN);
        Check.due("wipe(5)", x.wipe(5), SumColours.UNKNOWN);
        Check.due("number(3, 1)", x.number(3, 1), SumColours.NONE);
        Check.due("count(2)", x.count(2), 3);
        Check.due("count(5)", x.count(5), 2);
        Check.due("wipe() without a board", new SumColours().wipe(1), SumColours.UNKNOWN);
    }

    private static void be() {
        SumColours x = Check.board("2;nnnn;aabb");
        Check.due("count(3)", x.count(3), 1);
        Check.due("ways(0)", x.ways(0), 0);
        Check.due("be(2, 1)", x.be(2, 1), 0);
        Check.due("count(3) then", x.count(3), 0);
        Check.due("ways(0) then", x.ways(0), 1);
        for (int kind = 4; kind >= 0; kind--) {
            Check.due("be(2, " + kind + ")", x.be(2, kind), kind == 4 ? 1 : kind + 1);
            Check.due("number(2, 0)", x.number(2, 0), kind);
        }
        Check.due("of the kind that it is", x.be(2, 0), 0);
        Check.due("count(5)", x.count(5), 0);
        Check.due("be(0, 9)", x.be(0, 9), SumColours.UNKNOWN);
        Check.due("be(5, 0)", x.be(5, 0), SumColours.UNKNOWN);
        Check.due("be(1, 5)", x.be(1, 5), SumColours.OUTSIDE);
        Check.due("be(1, -1)", x.be(1, -1), SumColours.OUTSIDE);
        Check.due("number(1, 0) after refusals", x.number(1, 0), 0);
        Check.due("be() without a board", new SumColours().be(1, 0), SumColours.UNKNOWN);
    }
}
