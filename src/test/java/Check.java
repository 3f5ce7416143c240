/** What the tests share: answers held against what is due, and boards made of a text. */
final class Check {
    private static int wrong = 0;
    private static int held = 0;
    private static String heading = "";

    private Check() {
    }

    static void due(String call, long got, long want) {
        held++;
        if (got != want) {
            wrong++;
            System.out.println(heading + call + " answered " + got + ", due is " + want);
        }
    }

    /** What stands ahead of each answer that is not as due, until another heading comes. */
    static void head(String words) {
        heading = words;
    }

    static int held() {
        return held;
    }

    /** Ends the test: with exit code 1, if an answer was not as due or none was held. */
    static void end(String test) {
        System.out.println(test + ": " + held + " answers held, " + wrong + " not as due");
        if (wrong > 0 || held == 0) {
            System.exit(1);
        }
    }

    static void type(SumColours x, String text) {
        for (int place = 0; place < text.length(); place++) {
            x.letter(text.charAt(place));
        }
    }

    /** What board() answers to a text on a new object. */
    static int readingOf(String text) {
        SumColours x = new SumColours();
        type(x, text);
        return x.board();
    }

    static SumColours board(String text) {
        SumColours x = new SumColours();
        type(x, text);
        due("board() of " + text, x.board(), (text.length() - 3) / 2);
        return x;
    }

    static int faultOf(String text) {
        SumColours x = new SumColours();
        type(x, text);
        return x.fault();
    }
}
