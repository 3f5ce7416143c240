import java.util.Random;

/** Runs of calls by a fixed seed: the class answers each as the plain model of the document does. */
public final class ModelTest {
    private static final int RUNS = 240;
    private static final int STEPS = 120;
    /** An object is promised for 512 calls; a step that types and reads a board makes some fifty of them. */
    private static final int LAST_STEP_BY = 440;
    private static final int[] ODD = {-1, 0, 1, 11, 126, 127, Integer.MIN_VALUE, Integer.MAX_VALUE};

    private final Random random;
    private final SumColours x = new SumColours();
    private final Model model = new Model();
    private final int most;
    private final String kindsInPlay;
    private int calls = 0;

    private ModelTest(int run) {
        random = new Random(run);
        most = run % 12 == 0 ? 10 : 4 + run % 5;
        kindsInPlay = run % 3 == 0 ? "nnnl" : run % 3 == 1 ? "nlfso" : "nnnnlfso";
    }

    public static void main(String[] args) {
        for (int run = 0; run < RUNS; run++) {
            ModelTest one = new ModelTest(run);
            for (int step = 0; step < STEPS && one.calls <= LAST_STEP_BY; step++) {
                one.step("run " + run + ", step " + step + ": ");
            }
            one.due("run " + run + ": digest()", one.x.digest(), one.model.digest());
            Check.due("run " + run + " makes more calls than are promised", one.calls > 512 ? 1 : 0, 0);
        }
        Check.end("ModelTest");
    }

    private void due(String call, long got, long want) {
        calls++;
        Check.due(call, got, want);
    }

    private int any(int from, int to) {
        if (random.nextInt(40) == 0) return ODD[random.nextInt(ODD.length)];
        return from + random.nextInt(to - from + 1);
    }

    private int number() {
        return any(random.nextInt(12) == 0 ? 0 : 1, Math.max(1, model.count(0) + (random.nextInt(12) == 0 ? 1 : 0)));
    }

    private String text() {
        int numbers = 4 + random.nextInt(most - 3);
        int colours = 2 + random.nextInt(2);
        StringBuilder made = new StringBuilder().append(colours).append(';');
        for (int at = 0; at < numbers; at++) made.append(kindsInPlay.charAt(random.nextInt(kindsInPlay.length())));
        made.append(';');
        int bareOf = 1 + random.nextInt(4);
        for (int at = 0; at < numbers; at++) {
            made.append(random.nextInt(bareOf) > 0 ? (char) ('a' + random.nextInt(colours)) : '.');
        }
        if (random.nextInt(4) == 0) {
            made.setCharAt(random.nextInt(made.length()), "23;nlfso.abcx".charAt(random.nextInt(13)));
        }
        if (random.nextInt(8) == 0) made.append(".n;a".charAt(random.nextInt(4)));
        return made.toString();
    }

    private void typeAndRead(String at) {
        String text = text();
        for (char letter : text.toCharArray()) {
            due(at + "letter of " + text, x.letter(letter), model.letter(letter));
            due(at + "fault() in " + text, x.fault(), model.fault());
        }
        due(at + "board() of " + text, x.board(), model.board());
        if (random.nextInt(3) > 0) due(at + "blank()", x.blank(), model.blank());
    }

    private void step(String at) {
        if (model.count(0) == 0 && random.nextInt(3) == 0 || random.nextInt(50) == 0) typeAndRead(at);
        int a = number();
        int b = any(0, 5);
        int c = any(0, 2);
        String args = "(" + a + ", " + b + ", " + c + ")";
        switch (random.nextInt(24)) {
            case 0: int code = any(30, 128);
                due(at + "letter " + code, x.letter(code), model.letter(code));
                due(at + "fault()", x.fault(), model.fault()); break;
            case 1: case 2: case 3: due(at + "number" + args, x.number(a, b), model.number(a, b)); break;
            case 4: due(at + "as" + args, x.as(a, b), model.as(a, b)); break;
            case 5: int way = any(0, Math.max(0, model.ways(0)));
                due(at + "way " + way + " " + args, x.way(way, a), model.way(way, a)); break;
            case 6: case 7: case 8: due(at + "paint" + args, x.paint(a, c), model.paint(a, c)); break;
            case 9: case 10: due(at + "wipe" + args, x.wipe(a), model.wipe(a)); break;
            case 11: due(at + "be" + args, x.be(a, b), model.be(a, b)); break;
            case 12: case 13: due(at + "ways" + args, x.ways(c), model.ways(c)); break;
            case 14: due(at + "mend()", x.mend(), model.mend()); break;
            case 15: due(at + "wins" + args, x.wins(c), model.wins(c)); break;
            case 16: due(at + "odds" + args, x.odds(a, c, b % 3), model.odds(a, c, b % 3)); break;
            case 17: boolean could = random.nextBoolean();
                due(at + "see" + args, x.see(a, c, could), model.see(a, c, could)); break;
            case 18: if (random.nextInt(4) == 0) due(at + "forget()", x.forget(), model.forget()); break;
            case 19: int times = any(1, 40);
                int seed = any(0, Integer.MAX_VALUE - 1);
                due(at + "paintings", x.paintings(times, seed, c), model.paintings(times, seed, c)); break;
            case 20: due(at + "image()", x.image(), model.image()); break;
            case 21: due(at + "restore()", x.restore(), model.restore()); break;
            case 22: int what = any(0, 9); due(at + "count " + what, x.count(what), model.count(what)); break;
            default: if (most < 10 || random.nextInt(6) == 0) due(at + "digest()", x.digest(), model.digest());
        }
    }
}
