/**
 * Numbers coloured so that no sum has the colour of both its parts: the board, what is done to it,
 * what would be, and what is seen of it. The document's numbered promises say what each call answers.
 */
public final class SumColours {
    public static final int NONE = -1, UNKNOWN = -101, OUTSIDE = -102, STATE = -103, FULL = -104;

    private static final int FEWEST_NUMBERS = 4;
    private static final int MOST_NUMBERS = 10;
    private static final int MOST_COLOURS = 3;
    private static final int MOST_LETTERS = 26;
    private static final int MOST_CHANGES = 999;
    private static final int MOST_SEEN = 6;
    private static final int MOST_TIMES = 40;

    private static final String KIND_LETTERS = "nlfso";
    private static final int KINDS = 5;
    private static final int NUMBER = 0;
    private static final int SHY = 3;
    private static final int LONE = 4;

    /** The roles in which a three can be bad with a number, as bits in the order in which they can be seen. */
    private static final int SUM_OF_UNLIKE = 1;
    private static final int TWICE = 2;
    private static final int PART = 4;
    private static final int ROLES = 3;

    private static final int[] ROLES_OF_KIND = {
        SUM_OF_UNLIKE | TWICE | PART, SUM_OF_UNLIKE | PART, PART, SUM_OF_UNLIKE | TWICE, 0
    };

    private final Page page;
    private final Board board;
    private final Sightings sightings;
    private final Outlook outlook;
    private final Board keptBoard;
    private final Sightings keptSightings;
    private boolean imageKept;
    private int boardsRead;

    public SumColours() {
        page = new Page();
        board = new Board();
        sightings = new Sightings();
        outlook = new Outlook(board);
        keptBoard = new Board();
        keptSightings = new Sightings();
        imageKept = false;
        boardsRead = 0;
    }

    // ---- the board

    public int letter(int code) {
        if (code < 32 || code > 126) {
            return OUTSIDE;
        }
        if (page.length >= MOST_LETTERS) {
            return FULL;
        }
        page.append(code);
        return page.length;
    }

    public int blank() {
        int had = page.length;
        page.length = 0;
        return had;
    }

    public int fault() {
        return page.firstFault();
    }

    public int board() {
        if (!page.isBoard()) {
            return STATE;
        }
        board.readFrom(page);
        page.length = 0;
        sightings.size = 0;
        outlook.stale = true;
        imageKept = false;
        boardsRead++;
        return board.numbers;
    }

    // ---- numbers

    public int number(int number, int what) {
        if (!board.hasNumber(number)) {
            return UNKNOWN;
        }
        switch (what) {
            case 0:
                return at(board.kinds, number);
            case 1:
                return at(board.tints, number);
            case 2:
                outlook.refresh();
                return outlook.sureColour(number);
            case 3:
                return sightings.sorts(number);
            case 4:
                return sightings.bestRoleToAsk(number);
            case 5:
                return board.badWith(board.tints, number);
            default:
                return OUTSIDE;
        }
    }

    public int as(int number, int kind) {
        if (!board.hasNumber(number)) {
            return UNKNOWN;
        }
        if (!isKind(kind)) {
            return OUTSIDE;
        }
        int own = at(board.kinds, number);
        boolean isSuch = kind == NUMBER || kind == own || (kind == SHY && own == LONE);
        return isSuch ? number : NONE;
    }

    public int way(int way, int number) {
        if (way < 0 || !board.hasNumber(number)) {
            return UNKNOWN;
        }
        outlook.refresh();
        if (way >= outlook.ways) {
            return UNKNOWN;
        }
        return outlook.colourInWay(way, number);
    }

    // ---- what is done

    public int paint(int number, int colour) {
        if (!board.hasNumber(number)) {
            return UNKNOWN;
        }
        if (!board.hasColour(colour)) {
            return OUTSIDE;
        }
        if (board.changes >= MOST_CHANGES) {
            return FULL;
        }
        changeColour(number, colour);
        return board.badThrees(board.tints);
    }

    public int wipe(int number) {
        if (!board.hasNumber(number)) {
            return UNKNOWN;
        }
        int had = at(board.tints, number);
        if (had == NONE) {
            return STATE;
        }
        if (board.changes >= MOST_CHANGES) {
            return FULL;
        }
        changeColour(number, NONE);
        return had;
    }

    private void changeColour(int number, int colour) {
        put(board.tints, number, colour);
        board.changes++;
        outlook.stale = true;
    }

    public int be(int number, int kind) {
        if (!board.hasNumber(number)) {
            return UNKNOWN;
        }
        if (!isKind(kind)) {
            return OUTSIDE;
        }
        int was = at(board.kinds, number);
        put(board.kinds, number, kind);
        outlook.stale = true;
        return was;
    }

    // ---- what would be

    public int ways(int what) {
        if (what < 0 || what > 2) {
            return OUTSIDE;
        }
        if (!board.isThere()) {
            return STATE;
        }
        outlook.refresh();
        return what == 0 ? outlook.ways : what == 1 ? outlook.nextToPaint() : outlook.up;
    }

    public int mend() {
        if (!board.isThere()) {
            return STATE;
        }
        return outlook.fewestAnew();
    }

    public int wins(int what) {
        if (what < 0 || what > 1) {
            return OUTSIDE;
        }
        if (!board.isThere()) {
            return STATE;
        }
        int colour = outlook.winningColour();
        if (what == 1) {
            return colour;
        }
        return colour == NONE ? 0 : 1;
    }

    public int odds(int number, int colour, int what) {
        if (!board.hasNumber(number)) {
            return UNKNOWN;
        }
        if (!board.hasColour(colour) || what < 0 || what > 1) {
            return OUTSIDE;
        }
        outlook.refresh();
        int above = outlook.waysWith(number, colour);
        int common = greatestCommonDivisor(outlook.ways, above);
        if (above == 0 || common == 0) {
            return what == 0 ? 0 : 1;
        }
        return what == 0 ? above / common : outlook.ways / common;
    }

    // ---- what is seen

    public int see(int number, int what, boolean could) {
        if (!board.hasNumber(number)) {
            return UNKNOWN;
        }
        if (what < 0 || what >= ROLES) {
            return OUTSIDE;
        }
        if (sightings.size >= MOST_SEEN) {
            return FULL;
        }
        sightings.append(number, what, could);
        return sightings.size;
    }

    public int forget() {
        int had = sightings.size;
        sightings.size = 0;
        return had;
    }

    public int paintings(int times, int seed, int what) {
        if (times < 1 || times > MOST_TIMES || seed < 0 || what < 0 || what > 2) {
            return OUTSIDE;
        }
        if (!board.isThere()) {
            return STATE;
        }
        int latest = seed;
        int clean = 0;
        int bad = 0;
        for (int time = 0; time < times; time++) {
            latest = outlook.paintBareBySeed(latest);
            int found = board.badThrees(outlook.trial);
            bad += found;
            clean += found == 0 ? 1 : 0;
        }
        return what == 0 ? clean : what == 1 ? bad : latest;
    }

    // ---- what is told of all

    public int image() {
        if (!board.isThere()) {
            return STATE;
        }
        keptBoard.copyFrom(board);
        keptSightings.copyFrom(sightings);
        imageKept = true;
        return board.changes;
    }

    public int restore() {
        if (!imageKept) {
            return STATE;
        }
        board.copyFrom(keptBoard);
        sightings.copyFrom(keptSightings);
        outlook.stale = true;
        return board.changes;
    }

    public int count(int what) {
        switch (what) {
            case 0:
                return board.numbers;
            case 1:
                return board.colours;
            case 2:
                return board.bareNumbers();
            case 3:
                return board.badThrees(board.tints);
            case 4:
                return board.threes();
            case 5:
                return board.changes;
            case 6:
                return sightings.size;
            case 7:
                return page.length;
            case 8:
                return boardsRead;
            default:
                return OUTSIDE;
        }
    }

    public long digest() {
        long h = 1321;
        for (int number = 1; number <= board.numbers; number++) {
            for (int what = 0; what <= 5; what++) {
                h = 31 * h + number(number, what);
            }
            h = 31 * h + odds(number, 0, 0);
            h = 31 * h + odds(number, 0, 1);
        }
        if (board.isThere()) {
            for (int what = 0; what <= 2; what++) {
                h = 31 * h + ways(what);
            }
            h = 31 * h + mend();
            h = 31 * h + wins(0);
            h = 31 * h + wins(1);
        }
        for (int place = 0; place < page.length; place++) {
            h = 31 * h + page.codeAt(place);
        }
        for (int what = 0; what <= 8; what++) {
            h = 31 * h + count(what);
        }
        return h;
    }

    // ---- what all share

    /** Every row is read here, so that no index is ever used untested. */
    private static int at(int[] row, int place) {
        return place >= 0 && place < row.length ? row[place] : 0;
    }

    /** Every row is written here, so that no index is ever used untested. */
    private static void put(int[] row, int place, int value) {
        if (place >= 0 && place < row.length) {
            row[place] = value;
        }
    }

    private static void copyRow(int[] from, int[] to) {
        System.arraycopy(from, 0, to, 0, Math.min(from.length, to.length));
    }

    private static boolean isKind(int kind) {
        return kind >= 0 && kind < KINDS;
    }

    private static boolean kindHasRole(int kind, int role) {
        return (at(ROLES_OF_KIND, kind) & 1 << role) != 0;
    }

    private static int greatestCommonDivisor(int one, int other) {
        int greater = one;
        int lesser = other;
        for (int step = 0; step < 64 && lesser > 0; step++) {
            int rest = greater % lesser;
            greater = lesser;
            lesser = rest;
        }
        return greater;
    }

    /** The letters from which a board is read. */
    private static final class Page {
        private static final int FIRST_KIND = 2;

        private final int[] codes = new int[MOST_LETTERS];
        private int length = 0;

        private void append(int code) {
            put(codes, length, code);
            length++;
        }

        /** Letters that were blanked may still stand in the row: they are not of the page. */
        private int codeAt(int place) {
            return place < length ? at(codes, place) : 0;
        }

        private int colours() {
            return codeAt(0) - '0';
        }

        private int kindAt(int place) {
            return KIND_LETTERS.indexOf((char) codeAt(place));
        }

        /** How many letters of kinds stand one behind the other where the kinds begin. */
        private int kindsTold() {
            int told = 0;
            while (told < MOST_NUMBERS && kindAt(FIRST_KIND + told) != NONE) {
                told++;
            }
            return told;
        }

        private int firstFault() {
            int kindsEnd = FIRST_KIND + kindsTold();
            int place = 0;
            while (place < length && fits(place, kindsEnd)) {
                place++;
            }
            return place;
        }

        /** Whether some board has this letter here, if those ahead of it fit. */
        private boolean fits(int place, int kindsEnd) {
            int code = codeAt(place);
            if (place == 0) {
                return code == '2' || code == '3';
            }
            if (place < FIRST_KIND) {
                return code == ';';
            }
            if (place < kindsEnd) {
                return true;
            }
            int told = kindsEnd - FIRST_KIND;
            if (place == kindsEnd) {
                return code == ';' && told >= FEWEST_NUMBERS;
            }
            return place <= kindsEnd + told && isSign(code);
        }

        private boolean isSign(int code) {
            return code == '.' || (code >= 'a' && code < 'a' + colours());
        }

        private boolean isBoard() {
            return length == FIRST_KIND + 2 * kindsTold() + 1 && firstFault() == length;
        }

        private int colourAt(int place) {
            int code = codeAt(place);
            return code == '.' ? NONE : code - 'a';
        }
    }

    /** The numbers, their kinds and colours; without numbers it is no board. Rows begin with number 1 at place 1. */
    private static final class Board {
        private final int[] kinds = new int[MOST_NUMBERS + 1];
        private final int[] tints = new int[MOST_NUMBERS + 1];
        private int numbers = 0;
        private int colours = 0;
        private int changes = 0;

        private void readFrom(Page page) {
            numbers = page.kindsTold();
            colours = page.colours();
            changes = 0;
            for (int number = 1; number <= numbers; number++) {
                int kindPlace = Page.FIRST_KIND + number - 1;
                put(kinds, number, page.kindAt(kindPlace));
                put(tints, number, page.colourAt(kindPlace + numbers + 1));
            }
        }

        private void copyFrom(Board other) {
            copyRow(other.kinds, kinds);
            copyRow(other.tints, tints);
            numbers = other.numbers;
            colours = other.colours;
            changes = other.changes;
        }

        private boolean isThere() {
            return numbers > 0;
        }

        private boolean hasNumber(int number) {
            return number >= 1 && number <= numbers;
        }

        private boolean hasColour(int colour) {
            return colour >= 0 && colour < colours;
        }

        private boolean isBare(int number) {
            return at(tints, number) == NONE;
        }

        private int bareNumbers() {
            int bare = 0;
            for (int number = 1; number <= numbers; number++) {
                bare += isBare(number) ? 1 : 0;
            }
            return bare;
        }

        private int threes() {
            int there = 0;
            for (int sum = 1; sum <= numbers; sum++) {
                there += sum / 2;
            }
            return there;
        }

        /** Whether the three of these two and their sum is bad, if the numbers are painted so. */
        private boolean isBad(int[] painted, int one, int other) {
            int sum = one + other;
            int colour = at(painted, sum);
            if (colour == NONE || colour != at(painted, one) || colour != at(painted, other)) {
                return false;
            }
            int rolesOfBoth = at(ROLES_OF_KIND, at(kinds, one)) & at(ROLES_OF_KIND, at(kinds, other));
            int rolesOfSum = at(ROLES_OF_KIND, at(kinds, sum));
            return (rolesOfBoth & PART) != 0 && (rolesOfSum & (one == other ? TWICE : SUM_OF_UNLIKE)) != 0;
        }

        private int badWithSum(int[] painted, int sum) {
            if ((at(ROLES_OF_KIND, at(kinds, sum)) & (TWICE | SUM_OF_UNLIKE)) == 0) {
                return 0;
            }
            int bad = 0;
            for (int one = 1; one <= sum - one; one++) {
                bad += isBad(painted, one, sum - one) ? 1 : 0;
            }
            return bad;
        }

        private int badWith(int[] painted, int number) {
            int bad = badWithSum(painted, number);
            for (int other = 1; other <= numbers - number; other++) {
                bad += isBad(painted, number, other) ? 1 : 0;
            }
            return bad;
        }

        private int badThrees(int[] painted) {
            int bad = 0;
            for (int sum = 1; sum <= numbers; sum++) {
                bad += badWithSum(painted, sum);
            }
            return bad;
        }
    }

    /** What would be, if the bare numbers were painted: tried on a row of its own, never on the board. */
    private static final class Outlook {
        private final Board board;
        private final int[] trial = new int[MOST_NUMBERS + 1];
        /** Of each number and colour, in how many of the ways it has that. */
        private final int[] tally = new int[(MOST_NUMBERS + 1) * MOST_COLOURS];
        private int ways = 0;
        private int up = 0;
        private int fewest = 0;
        private int waysToSkip = 0;
        /** Going through all ways is dear: it is done again only when the board is another than then. */
        private boolean stale = true;

        private Outlook(Board board) {
            this.board = board;
        }

        private void refresh() {
            if (!stale) {
                return;
            }
            for (int place = 0; place < tally.length; place++) {
                put(tally, place, 0);
            }
            up = 0;
            ways = countWaysFrom(1);
            stale = false;
        }

        /** Whether a number can have a colour beside the lesser ones on trial; it has it then. */
        private boolean tryColour(int number, int colour) {
            put(trial, number, colour);
            return board.badWithSum(trial, number) == 0;
        }

        private boolean mayHave(int number, int colour) {
            int own = at(board.tints, number);
            return own == NONE || own == colour;
        }

        private int countWaysFrom(int number) {
            if (number > board.numbers) {
                return 1;
            }
            int found = 0;
            for (int colour = 0; colour < board.colours; colour++) {
                if (mayHave(number, colour) && tryColour(number, colour)) {
                    up = Math.max(up, number);
                    int foundSo = countWaysFrom(number + 1);
                    int place = placeOf(number, colour);
                    put(tally, place, at(tally, place) + foundSo);
                    found += foundSo;
                }
            }
            return found;
        }

        private int placeOf(int number, int colour) {
            return number * MOST_COLOURS + colour;
        }

        private int waysWith(int number, int colour) {
            return at(tally, placeOf(number, colour));
        }

        private int sureColour(int number) {
            for (int colour = 0; colour < board.colours; colour++) {
                if (ways > 0 && waysWith(number, colour) == ways) {
                    return colour;
                }
            }
            return NONE;
        }

        private int nextToPaint() {
            int best = NONE;
            int mostLeft = 0;
            for (int number = 1; number <= board.numbers; number++) {
                for (int colour = 0; colour < board.colours; colour++) {
                    int left = waysWith(number, colour);
                    if (board.isBare(number) && left > mostLeft) {
                        mostLeft = left;
                        best = 10 * number + colour;
                    }
                }
            }
            return best;
        }

        private int colourInWay(int way, int number) {
            waysToSkip = way;
            return goToWayFrom(1) ? at(trial, number) : UNKNOWN;
        }

        private boolean goToWayFrom(int number) {
            if (number > board.numbers) {
                waysToSkip--;
                return waysToSkip < 0;
            }
            for (int colour = 0; colour < board.colours; colour++) {
                if (mayHave(number, colour) && tryColour(number, colour) && goToWayFrom(number + 1)) {
                    return true;
                }
            }
            return false;
        }

        private int fewestAnew() {
            fewest = MOST_NUMBERS + 1;
            paintAnewFrom(1, 0);
            return fewest > MOST_NUMBERS ? NONE : fewest;
        }

        private void paintAnewFrom(int number, int anew) {
            if (anew >= fewest) {
                return;
            }
            if (number > board.numbers) {
                fewest = anew;
                return;
            }
            for (int colour = 0; colour < board.colours; colour++) {
                if (tryColour(number, colour)) {
                    paintAnewFrom(number + 1, mayHave(number, colour) ? anew : anew + 1);
                }
            }
        }

        private int winningColour() {
            if (board.badThrees(board.tints) > 0) {
                return NONE;
            }
            copyRow(board.tints, trial);
            return winningColourFrom(1);
        }

        /** By which colour who is next wins, all numbers below this one being painted. */
        private int winningColourFrom(int number) {
            if (number > board.numbers) {
                return NONE;
            }
            if (!board.isBare(number)) {
                return winningColourFrom(number + 1);
            }
            int winning = NONE;
            for (int colour = 0; colour < board.colours && winning == NONE; colour++) {
                put(trial, number, colour);
                if (board.badWith(trial, number) == 0 && winningColourFrom(number + 1) == NONE) {
                    winning = colour;
                }
            }
            put(trial, number, NONE);
            return winning;
        }

        /** The trial row is the board with its bare numbers painted by draws; the seed behind them. */
        private int paintBareBySeed(int seed) {
            copyRow(board.tints, trial);
            int latest = seed;
            for (int number = 1; number <= board.numbers; number++) {
                if (board.isBare(number) && board.colours > 0) {
                    latest = 1103515245 * latest + 12345 & 0x7fffffff;
                    put(trial, number, latest / 65536 % board.colours);
                }
            }
            return latest;
        }
    }

    /** What was seen of numbers whose kind is taken as not known. */
    private static final class Sightings {
        private final int[] numbers = new int[MOST_SEEN];
        private final int[] roles = new int[MOST_SEEN];
        private final int[] coulds = new int[MOST_SEEN];
        private int size = 0;

        private void append(int number, int role, boolean could) {
            put(numbers, size, number);
            put(roles, size, role);
            put(coulds, size, could ? 1 : 0);
            size++;
        }

        private void copyFrom(Sightings other) {
            copyRow(other.numbers, numbers);
            copyRow(other.roles, roles);
            copyRow(other.coulds, coulds);
            size = other.size;
        }

        private boolean allowKind(int number, int kind) {
            for (int place = 0; place < size; place++) {
                boolean could = at(coulds, place) == 1;
                if (at(numbers, place) == number && kindHasRole(kind, at(roles, place)) != could) {
                    return false;
                }
            }
            return true;
        }

        private int sorts(int number) {
            int sorts = 0;
            for (int kind = 0; kind < KINDS; kind++) {
                sorts |= allowKind(number, kind) ? 1 << kind : 0;
            }
            return sorts;
        }

        private int bestRoleToAsk(int number) {
            int sorts = sorts(number);
            int best = NONE;
            int fewestLeft = sorts == 0 ? 0 : KINDS + 1;
            for (int role = 0; role < ROLES; role++) {
                int left = leftAtWorst(sorts, role);
                if (left < fewestLeft) {
                    fewestLeft = left;
                    best = role;
                }
            }
            return best;
        }

        private int leftAtWorst(int sorts, int role) {
            int with = 0;
            int without = 0;
            for (int kind = 0; kind < KINDS; kind++) {
                int one = sorts >> kind & 1;
                if (kindHasRole(kind, role)) {
                    with += one;
                } else {
                    without += one;
                }
            }
            return Math.max(with, without);
        }
    }
}
