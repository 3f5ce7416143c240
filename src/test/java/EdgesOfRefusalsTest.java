import java.util.function.Supplier;
import java.util.function.ToIntFunction;

/** The edges of all refusals: of several the first that the call tells, and none of them changes anything. */
public final class EdgesOfRefusalsTest {
    private static final int UNKNOWN = SumColours.UNKNOWN;
    private static final int OUTSIDE = SumColours.OUTSIDE;
    private static final int STATE = SumColours.STATE;
    private static final int FULL = SumColours.FULL;

    public static void main(String[] args) {
        Sentences.test("Terms", "Refusals, of several the first as told by each call", EdgesOfRefusalsTest::theFirst);
        Sentences.test("Terms", "UNKNOWN (a number names nothing; NUMBERS are named from 1 on)",
            EdgesOfRefusalsTest::namesNothing);
        Sentences.test("Terms", "OUTSIDE (it is not as told), STATE (as told), FULL; they change nothing.",
            EdgesOfRefusalsTest::theyChangeNothing);
        Check.end("EdgesOfRefusalsTest");
    }

    // ---- scenes, each with something that a refusal could spoil

    private static SumColours noBoard() {
        SumColours x = new SumColours();
        Check.type(x, "3;nn");
        return x;
    }

    private static SumColours fullPage() {
        SumColours x = inUse();
        x.blank();
        Check.type(x, "3;nnnnnnnnnn;...........xx");
        return x;
    }

    private static SumColours inUse() {
        SumColours x = new SumColours();
        Check.type(x, "2;nlfso;ab..b");
        x.board();
        x.paint(3, 0);
        x.see(2, 1, false);
        x.image();
        x.see(3, 0, true);
        x.be(1, 2);
        x.wipe(1);
        Check.type(x, "2;nnnn;...");
        return x;
    }

    private static SumColours fullOfSeen() {
        SumColours x = inUse();
        for (int time = 0; time < 4; time++) {
            x.see(4, 2, true);
        }
        return x;
    }

    /** Beyond the 512 calls that are promised, as no other run gets to 999 changes. */
    private static SumColours fullOfChanges() {
        SumColours x = inUse();
        for (int change = x.count(5); change < 999; change++) {
            x.paint(4, change % 2);
        }
        return x;
    }

    private static SumColours anotherBoard() {
        SumColours x = inUse();
        x.letter('a');
        x.board();
        x.letter('3');
        return x;
    }

    // ---- of several the first

    private static void theFirst() {
        SumColours page = fullPage();
        Check.due("letter: OUTSIDE of two", page.letter(127), OUTSIDE);
        Check.due("letter: FULL", page.letter(126), FULL);
        SumColours x = inUse();
        Check.due("number: UNKNOWN of two", x.number(6, 6), UNKNOWN);
        Check.due("number: OUTSIDE", x.number(5, 6), OUTSIDE);
        Check.due("as: UNKNOWN of two", x.as(0, -1), UNKNOWN);
        Check.due("as: OUTSIDE", x.as(1, -1), OUTSIDE);
        Check.due("be: UNKNOWN of two", x.be(6, 5), UNKNOWN);
        Check.due("be: OUTSIDE", x.be(5, 5), OUTSIDE);
        Check.due("odds: UNKNOWN of three", x.odds(6, 2, 2), UNKNOWN);
        Check.due("odds: OUTSIDE, the colour", x.odds(5, 2, 0), OUTSIDE);
        Check.due("odds: OUTSIDE, what", x.odds(5, 1, 2), OUTSIDE);
        SumColours full = fullOfChanges();
        Check.due("paint: UNKNOWN of three", full.paint(6, 2), UNKNOWN);
        Check.due("paint: UNKNOWN of two", full.paint(6, 0), UNKNOWN);
        Check.due("paint: OUTSIDE of two", full.paint(5, 2), OUTSIDE);
        Check.due("paint: FULL", full.paint(5, 1), FULL);
        Check.due("wipe: UNKNOWN of two", full.wipe(6), UNKNOWN);
        Check.due("wipe: STATE of two", full.wipe(1), STATE);
        Check.due("wipe: FULL", full.wipe(5), FULL);
        SumColours seen = fullOfSeen();
        Check.due("see: UNKNOWN of three", seen.see(6, 3, true), UNKNOWN);
        Check.due("see: UNKNOWN of two", seen.see(0, 0, true), UNKNOWN);
        Check.due("see: OUTSIDE of two", seen.see(5, 3, true), OUTSIDE);
        Check.due("see: FULL", seen.see(5, 2, true), FULL);
        SumColours none = noBoard();
        Check.due("ways: OUTSIDE of two", none.ways(3), OUTSIDE);
        Check.due("ways: STATE", none.ways(2), STATE);
        Check.due("wins: OUTSIDE of two", none.wins(2), OUTSIDE);
        Check.due("wins: STATE", none.wins(1), STATE);
        Check.due("paintings: OUTSIDE of two", none.paintings(41, 0, 0), OUTSIDE);
        Check.due("paintings: STATE", none.paintings(40, 0, 0), STATE);
    }

    private static void namesNothing() {
        for (int number : new int[] {Integer.MIN_VALUE, -1, 0, 6, 10, 11, Integer.MAX_VALUE}) {
            SumColours x = inUse();
            Check.due("number(" + number + ", 0)", x.number(number, 0), UNKNOWN);
            Check.due("as(" + number + ", 0)", x.as(number, 0), UNKNOWN);
            Check.due("way(0, " + number + ")", x.way(0, number), UNKNOWN);
            Check.due("paint(" + number + ", 0)", x.paint(number, 0), UNKNOWN);
            Check.due("wipe(" + number + ")", x.wipe(number), UNKNOWN);
            Check.due("be(" + number + ", 0)", x.be(number, 0), UNKNOWN);
            Check.due("odds(" + number + ", 0, 0)", x.odds(number, 0, 0), UNKNOWN);
            Check.due("see(" + number + ", 0, true)", x.see(number, 0, true), UNKNOWN);
        }
        SumColours none = noBoard();
        Check.due("1 names nothing without a board", none.number(1, 0), UNKNOWN);
        Check.due("1 names something on one", inUse().number(1, 0), 2);
        Check.due("5 does, too", inUse().number(5, 0), 4);
    }

    // ---- they change nothing

    /** A call refused on one of two objects alike: from there on both answer alike. */
    private static void refused(Supplier<SumColours> scene, String call, ToIntFunction<SumColours> made, int due) {
        SumColours one = scene.get();
        SumColours other = scene.get();
        Check.due(call, made.applyAsInt(one), due);
        Check.due(call + " again", made.applyAsInt(one), due);
        long[] answers = probe(one);
        long[] alike = probe(other);
        for (int place = 0; place < answers.length; place++) {
            Check.due("behind " + call + ", probe " + place, answers[place], alike[place]);
        }
    }

    private static long[] probe(SumColours x) {
        return new long[] {
            x.digest(), x.fault(), x.way(0, 1), x.way(1, 5), x.odds(4, 1, 1), x.paintings(7, 5, 1), x.count(5), x.count(6),
            x.see(1, 0, true), x.paint(2, 0), x.be(2, 4), x.digest(), x.restore(), x.digest(), x.count(8), x.image(),
            x.letter('.'), x.digest(), x.board(), x.blank(), x.paint(5, 0), x.wipe(5), x.restore(), x.forget(), x.digest()
        };
    }

    private static void theyChangeNothing() {
        refusedWithoutABoard();
        refusedInUse();
        refusedWhenFull();
    }

    private static void refusedWithoutABoard() {
        Supplier<SumColours> none = EdgesOfRefusalsTest::noBoard;
        refused(none, "letter(31)", x -> x.letter(31), OUTSIDE);
        refused(none, "letter(127)", x -> x.letter(127), OUTSIDE);
        refused(none, "board()", x -> x.board(), STATE);
        refused(none, "number(1, 0)", x -> x.number(1, 0), UNKNOWN);
        refused(none, "as(1, 0)", x -> x.as(1, 0), UNKNOWN);
        refused(none, "way(0, 1)", x -> x.way(0, 1), UNKNOWN);
        refused(none, "paint(1, 0)", x -> x.paint(1, 0), UNKNOWN);
        refused(none, "wipe(1)", x -> x.wipe(1), UNKNOWN);
        refused(none, "be(1, 0)", x -> x.be(1, 0), UNKNOWN);
        refused(none, "ways(0)", x -> x.ways(0), STATE);
        refused(none, "mend()", x -> x.mend(), STATE);
        refused(none, "wins(0)", x -> x.wins(0), STATE);
        refused(none, "odds(1, 0, 0)", x -> x.odds(1, 0, 0), UNKNOWN);
        refused(none, "see(1, 0, true)", x -> x.see(1, 0, true), UNKNOWN);
        refused(none, "paintings(1, 0, 0)", x -> x.paintings(1, 0, 0), STATE);
        refused(none, "image()", x -> x.image(), STATE);
        refused(none, "restore()", x -> x.restore(), STATE);
        refused(none, "count(9)", x -> x.count(9), OUTSIDE);
    }

    private static void refusedInUse() {
        Supplier<SumColours> use = EdgesOfRefusalsTest::inUse;
        refused(use, "letter(31)", x -> x.letter(31), OUTSIDE);
        refused(use, "board()", x -> x.board(), STATE);
        refused(use, "number(6, 0)", x -> x.number(6, 0), UNKNOWN);
        refused(use, "number(1, 6)", x -> x.number(1, 6), OUTSIDE);
        refused(use, "as(1, 5)", x -> x.as(1, 5), OUTSIDE);
        refused(use, "way(-1, 1)", x -> x.way(-1, 1), UNKNOWN);
        refused(use, "way(0, 6)", x -> x.way(0, 6), UNKNOWN);
        refused(use, "paint(0, 0)", x -> x.paint(0, 0), UNKNOWN);
        refused(use, "paint(1, 2)", x -> x.paint(1, 2), OUTSIDE);
        refused(use, "paint(2, -1)", x -> x.paint(2, -1), OUTSIDE);
        refused(use, "wipe(6)", x -> x.wipe(6), UNKNOWN);
        refused(use, "wipe(1)", x -> x.wipe(1), STATE);
        refused(use, "be(6, 0)", x -> x.be(6, 0), UNKNOWN);
        refused(use, "be(1, 5)", x -> x.be(1, 5), OUTSIDE);
        refused(use, "ways(3)", x -> x.ways(3), OUTSIDE);
        refused(use, "wins(2)", x -> x.wins(2), OUTSIDE);
        refused(use, "odds(1, 2, 0)", x -> x.odds(1, 2, 0), OUTSIDE);
        refused(use, "see(6, 0, true)", x -> x.see(6, 0, true), UNKNOWN);
        refused(use, "see(1, 3, true)", x -> x.see(1, 3, true), OUTSIDE);
        refused(use, "paintings(41, 0, 0)", x -> x.paintings(41, 0, 0), OUTSIDE);
        refused(use, "paintings(1, -1, 0)", x -> x.paintings(1, -1, 0), OUTSIDE);
        refused(use, "count(-1)", x -> x.count(-1), OUTSIDE);
        refused(EdgesOfRefusalsTest::anotherBoard, "restore()", x -> x.restore(), STATE);
        refused(EdgesOfRefusalsTest::anotherBoard, "board()", x -> x.board(), STATE);
    }

    private static void refusedWhenFull() {
        refused(EdgesOfRefusalsTest::fullPage, "letter(46)", x -> x.letter(46), FULL);
        refused(EdgesOfRefusalsTest::fullPage, "board()", x -> x.board(), STATE);
        refused(EdgesOfRefusalsTest::fullOfSeen, "see(2, 1, true)", x -> x.see(2, 1, true), FULL);
        refused(EdgesOfRefusalsTest::fullOfChanges, "paint(5, 0)", x -> x.paint(5, 0), FULL);
        refused(EdgesOfRefusalsTest::fullOfChanges, "wipe(5)", x -> x.wipe(5), FULL);
    }
}
