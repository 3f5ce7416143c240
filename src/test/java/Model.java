import java.util.ArrayList;
import java.util.List;

/** The document done slowly and plainly, with none of the class's ways of doing it: all paintings are gone through. */
final class Model {
    private static final int NONE = -1, UNKNOWN = -101, OUTSIDE = -102, STATE = -103, FULL = -104;

    private String page = "";
    private int colours = 0;
    private String kinds = "";
    private String signs = "";
    private int changes = 0;
    private int boards = 0;
    private List<int[]> seen = new ArrayList<>();
    private Object[] kept = null;

    private List<String> waysCache = null;
    private String waysOf = "";

    int letter(int code) {
        if (code < 32 || code > 126) return OUTSIDE;
        if (page.length() + 1 > 26) return FULL;
        page += (char) code;
        return page.length();
    }

    int blank() {
        int had = page.length();
        page = "";
        return had;
    }

    private static boolean beginsABoard(String text) {
        for (int numbers = 4; numbers <= 10; numbers++) {
            for (int colours = 2; colours <= 3; colours++) {
                String signs = colours == 2 ? ".ab" : ".abc";
                boolean fits = text.length() <= 3 + 2 * numbers;
                for (int place = 0; place < text.length() && fits; place++) {
                    char letter = text.charAt(place);
                    if (place == 0) fits = letter == '0' + colours;
                    else if (place == 1 || place == 2 + numbers) fits = letter == ';';
                    else if (place < 2 + numbers) fits = "nlfso".indexOf(letter) >= 0;
                    else fits = signs.indexOf(letter) >= 0;
                }
                if (fits) return true;
            }
        }
        return false;
    }

    int fault() {
        for (int length = 1; length <= page.length(); length++) {
            if (!beginsABoard(page.substring(0, length))) return length - 1;
        }
        return page.length();
    }

    int board() {
        if (!page.matches("2;[nlfso]{4,10};[.ab]*|3;[nlfso]{4,10};[.abc]*")) return STATE;
        String[] parts = page.split(";", -1);
        if (parts[1].length() != parts[2].length()) return STATE;
        colours = Integer.parseInt(parts[0]);
        kinds = parts[1];
        signs = parts[2];
        changes = 0;
        seen = new ArrayList<>();
        kept = null;
        page = "";
        boards++;
        return kinds.length();
    }

    private boolean isNumber(int number) {
        return number >= 1 && number <= kinds.length();
    }

    private char kind(int number) {
        return kinds.charAt(number - 1);
    }

    private static int tint(String painted, int number) {
        return painted.charAt(number - 1) == '.' ? NONE : painted.charAt(number - 1) - 'a';
    }

    private boolean bad(String painted, int one, int other) {
        int sum = one + other;
        int colour = tint(painted, one);
        if (colour == NONE || tint(painted, other) != colour || tint(painted, sum) != colour) return false;
        if (kind(one) == 's' || kind(one) == 'o' || kind(other) == 's' || kind(other) == 'o') return false;
        if (kind(sum) == 'n' || kind(sum) == 's') return true;
        return kind(sum) == 'l' && one != other;
    }

    private int badUpTo(String painted, int most, int with) {
        int bad = 0;
        for (int one = 1; one <= most; one++) {
            for (int other = one; one + other <= most; other++) {
                boolean counted = with == 0 || one == with || other == with || one + other == with;
                if (counted && bad(painted, one, other)) bad++;
            }
        }
        return bad;
    }

    private List<String> allPaintings(String from) {
        List<String> all = new ArrayList<>();
        all.add("");
        for (char sign : from.toCharArray()) {
            List<String> longer = new ArrayList<>();
            for (String head : all) {
                if (sign != '.') longer.add(head + sign);
                else for (int colour = 0; colour < colours; colour++) longer.add(head + (char) ('a' + colour));
            }
            all = longer;
        }
        return all;
    }

    private List<String> allWays() {
        String now = colours + kinds + signs;
        if (waysCache == null || !waysOf.equals(now)) {
            waysCache = new ArrayList<>();
            for (String painted : allPaintings(signs)) {
                if (badUpTo(painted, kinds.length(), 0) == 0) waysCache.add(painted);
            }
            waysOf = now;
        }
        return waysCache;
    }

    private int waysWith(int number, int colour) {
        int with = 0;
        for (String painted : allWays()) if (tint(painted, number) == colour) with++;
        return with;
    }

    private int sure(int number) {
        int had = NONE;
        for (String painted : allWays()) {
            int tint = tint(painted, number);
            if (had != NONE && had != tint) return NONE;
            had = tint;
        }
        return had;
    }

    private static boolean couldBe(char kind, int what) {
        if (what == 2) return kind != 's' && kind != 'o';
        if (what == 1) return kind == 'n' || kind == 's';
        return kind != 'f' && kind != 'o';
    }

    private int sorts(int number) {
        int sorts = 0;
        for (int kind = 0; kind < 5; kind++) {
            boolean so = true;
            for (int[] one : seen) {
                if (one[0] == number && couldBe("nlfso".charAt(kind), one[1]) != (one[2] == 1)) so = false;
            }
            if (so) sorts += 1 << kind;
        }
        return sorts;
    }

    private int ask(int number) {
        int sorts = sorts(number);
        if (sorts == 0) return NONE;
        int[] worst = new int[3];
        for (int what = 0; what < 3; what++) {
            int[] left = new int[2];
            for (int kind = 0; kind < 5; kind++) {
                if ((sorts >> kind) % 2 == 1) left[couldBe("nlfso".charAt(kind), what) ? 1 : 0]++;
            }
            worst[what] = left[0] > left[1] ? left[0] : left[1];
        }
        if (worst[0] <= worst[1] && worst[0] <= worst[2]) return 0;
        return worst[1] <= worst[2] ? 1 : 2;
    }

    int number(int number, int what) {
        if (!isNumber(number)) return UNKNOWN;
        if (what == 0) return "nlfso".indexOf(kind(number));
        if (what == 1) return tint(signs, number);
        if (what == 2) return sure(number);
        if (what == 3) return sorts(number);
        if (what == 4) return ask(number);
        if (what == 5) return badUpTo(signs, kinds.length(), number);
        return OUTSIDE;
    }

    int as(int number, int kind) {
        if (!isNumber(number)) return UNKNOWN;
        if (kind < 0 || kind > 4) return OUTSIDE;
        String such = new String[] {"nlfso", "l", "f", "so", "o"}[kind];
        return such.indexOf(kind(number)) >= 0 ? number : NONE;
    }

    int way(int way, int number) {
        if (!isNumber(number) || way < 0 || way >= allWays().size()) return UNKNOWN;
        return tint(allWays().get(way), number);
    }

    private static String with(String row, int number, char sign) {
        return row.substring(0, number - 1) + sign + row.substring(number);
    }

    int paint(int number, int colour) {
        if (!isNumber(number)) return UNKNOWN;
        if (colour < 0 || colour >= colours) return OUTSIDE;
        if (changes >= 999) return FULL;
        signs = with(signs, number, (char) ('a' + colour));
        changes++;
        return badUpTo(signs, kinds.length(), 0);
    }

    int wipe(int number) {
        if (!isNumber(number)) return UNKNOWN;
        int had = tint(signs, number);
        if (had == NONE) return STATE;
        if (changes >= 999) return FULL;
        signs = with(signs, number, '.');
        changes++;
        return had;
    }

    int be(int number, int kind) {
        if (!isNumber(number)) return UNKNOWN;
        if (kind < 0 || kind > 4) return OUTSIDE;
        int was = "nlfso".indexOf(kind(number));
        kinds = with(kinds, number, "nlfso".charAt(kind));
        return was;
    }

    int ways(int what) {
        if (what < 0 || what > 2) return OUTSIDE;
        if (kinds.isEmpty()) return STATE;
        if (what == 0) return allWays().size();
        return what == 1 ? next() : up();
    }

    private int next() {
        int best = NONE;
        int most = 0;
        for (int number = kinds.length(); number >= 1; number--) {
            for (int colour = colours - 1; colour >= 0; colour--) {
                int left = waysWith(number, colour);
                if (tint(signs, number) == NONE && left > 0 && left >= most) {
                    most = left;
                    best = 10 * number + colour;
                }
            }
        }
        return best;
    }

    private int up() {
        for (int most = kinds.length(); most >= 1; most--) {
            for (String painted : allPaintings(signs.substring(0, most))) {
                if (badUpTo(painted, most, 0) == 0) return most;
            }
        }
        return 0;
    }

    int mend() {
        if (kinds.isEmpty()) return STATE;
        int fewest = 99;
        for (String painted : allPaintings(".".repeat(kinds.length()))) {
            int anew = 0;
            for (int number = 1; number <= kinds.length(); number++) {
                if (tint(signs, number) != NONE && tint(signs, number) != tint(painted, number)) anew++;
            }
            if (anew < fewest && badUpTo(painted, kinds.length(), 0) == 0) fewest = anew;
        }
        return fewest == 99 ? NONE : fewest;
    }

    private int winsBy(String painted) {
        int number = painted.indexOf('.') + 1;
        if (number == 0 || badUpTo(painted, kinds.length(), 0) > 0) return NONE;
        for (int colour = 0; colour < colours; colour++) {
            String then = with(painted, number, (char) ('a' + colour));
            if (badUpTo(then, kinds.length(), 0) == 0 && winsBy(then) == NONE) return colour;
        }
        return NONE;
    }

    int wins(int what) {
        if (what < 0 || what > 1) return OUTSIDE;
        if (kinds.isEmpty()) return STATE;
        int by = winsBy(signs);
        return what == 1 ? by : by == NONE ? 0 : 1;
    }

    int odds(int number, int colour, int what) {
        if (!isNumber(number)) return UNKNOWN;
        if (colour < 0 || colour >= colours || what < 0 || what > 1) return OUTSIDE;
        int above = waysWith(number, colour);
        int below = allWays().size();
        if (above == 0) below = 1;
        for (int by = above; by > 1; by--) {
            if (above % by == 0 && below % by == 0) {
                above /= by;
                below /= by;
            }
        }
        return what == 0 ? above : below;
    }

    int see(int number, int what, boolean could) {
        if (!isNumber(number)) return UNKNOWN;
        if (what < 0 || what > 2) return OUTSIDE;
        if (seen.size() == 6) return FULL;
        seen.add(new int[] {number, what, could ? 1 : 0});
        return seen.size();
    }

    int forget() {
        int had = seen.size();
        seen = new ArrayList<>();
        return had;
    }

    int paintings(int times, int seed, int what) {
        if (times < 1 || times > 40 || seed < 0 || what < 0 || what > 2) return OUTSIDE;
        if (kinds.isEmpty()) return STATE;
        long latest = seed;
        int clean = 0;
        int bad = 0;
        for (int time = 0; time < times; time++) {
            String painted = signs;
            while (painted.indexOf('.') >= 0) {
                latest = (1103515245L * latest + 12345L) % 2147483648L;
                painted = with(painted, painted.indexOf('.') + 1, (char) ('a' + latest / 65536 % colours));
            }
            int found = badUpTo(painted, kinds.length(), 0);
            if (found == 0) clean++;
            bad += found;
        }
        return what == 0 ? clean : what == 1 ? bad : (int) latest;
    }

    int image() {
        if (kinds.isEmpty()) return STATE;
        kept = new Object[] {kinds, signs, changes, new ArrayList<>(seen)};
        return changes;
    }

    @SuppressWarnings("unchecked")
    int restore() {
        if (kept == null) return STATE;
        kinds = (String) kept[0];
        signs = (String) kept[1];
        changes = (Integer) kept[2];
        seen = new ArrayList<>((List<int[]>) kept[3]);
        return changes;
    }

    int count(int what) {
        int all = kinds.length();
        switch (what) {
            case 0: return all;
            case 1: return colours;
            case 2: return signs.replaceAll("[abc]", "").length();
            case 3: return badUpTo(signs, all, 0);
            case 4: return all * all / 4;
            case 5: return changes;
            case 6: return seen.size();
            case 7: return page.length();
            case 8: return boards;
            default: return OUTSIDE;
        }
    }

    long digest() {
        List<Integer> told = new ArrayList<>();
        for (int number = 1; number <= kinds.length(); number++) {
            for (int what = 0; what <= 5; what++) told.add(number(number, what));
            told.add(odds(number, 0, 0));
            told.add(odds(number, 0, 1));
        }
        if (!kinds.isEmpty()) {
            for (int what = 0; what <= 2; what++) told.add(ways(what));
            told.add(mend());
            told.add(wins(0));
            told.add(wins(1));
        }
        for (char letter : page.toCharArray()) told.add((int) letter);
        for (int what = 0; what <= 8; what++) told.add(count(what));
        long h = 1321;
        for (int one : told) h = 31 * h + one;
        return h;
    }
}
