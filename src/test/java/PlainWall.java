import java.math.BigInteger;
import java.util.ArrayList;
import java.util.Arrays;
import java.util.HashSet;
import java.util.List;
import java.util.Set;
import java.util.TreeMap;
import java.util.regex.Matcher;
import java.util.regex.Pattern;

/**
 * The document once more, written as plainly and as unlike the program as can be (grids, texts, sets of the library),
 * for comparison. It knows no refusals by numbers: those are tested by themselves.
 */
final class PlainWall {
    static final int NONE = -6, STATE = -3, FULL = -4, NO = -5;
    private static final String ACT = "[A-H](?:[0-3][1-5]|~)|[a-p]-|\\.";

    /** What an image keeps. */
    static final class Kept {
        int[][] colour = new int[4][4];
        boolean[][] wet = new boolean[4][4];
        boolean[][][] holes = new boolean[8][4][4];
        int[] drops = {0, 50, 50, 50, 50, 50};
        int hour = 0;
        List<int[]> sights = new ArrayList<>();

        Kept copy() {
            Kept c = new Kept();
            for (int r = 0; r < 4; r++) {
                c.colour[r] = colour[r].clone();
                c.wet[r] = wet[r].clone();
            }
            for (int card = 0; card < 8; card++) {
                c.holes[card] = turn(holes[card], 0, false);
            }
            c.drops = drops.clone();
            c.hour = hour;
            c.sights = new ArrayList<>(sights);
            return c;
        }
    }

    Kept now = new Kept();
    String text = "";
    final Kept[] images = new Kept[2];

    // what an evening leaves
    private int acts, stop, why, sprayed, mudAct, mudCell;

    static boolean[][] turn(boolean[][] holes, int quarters, boolean over) {
        boolean[][] result = new boolean[4][4];
        for (int r = 0; r < 4; r++) {
            for (int s = 0; s < 4; s++) {
                int row = r, place = over ? 3 - s : s;
                for (int q = 0; q < quarters; q++) {
                    int oldRow = row;
                    row = place;
                    place = 3 - oldRow;
                }
                result[row][place] = holes[r][s];
            }
        }
        return result;
    }

    static int bits(boolean[][] cells) {
        int set = 0;
        for (int cell = 0; cell < 16; cell++) {
            if (cells[cell / 4][cell % 4]) {
                set += 1 << cell;
            }
        }
        return set;
    }

    static boolean[][] cells(int set) {
        boolean[][] cells = new boolean[4][4];
        for (int cell = 0; cell < 16; cell++) {
            cells[cell / 4][cell % 4] = (set >> cell) % 2 != 0;
        }
        return cells;
    }

    int lay(int cell, int colour, int wet) {
        int was = now.colour[cell / 4][cell % 4];
        now.colour[cell / 4][cell % 4] = colour;
        now.wet[cell / 4][cell % 4] = wet == 1;
        return was;
    }

    int card(int card, int holes) {
        int was = bits(now.holes[card]);
        now.holes[card] = cells(holes);
        return was;
    }

    int can(int colour, int drops) {
        int was = now.drops[colour];
        now.drops[colour] = drops;
        return was;
    }

    int say(int sign) {
        if (text.length() == 60) {
            return FULL;
        }
        text += (char) sign;
        return text.length();
    }

    int wipe() {
        int was = text.length();
        text = "";
        return was;
    }

    int fault() {
        for (int i = 1; i <= text.length(); i++) {
            if (!text.substring(0, i).matches("(" + ACT + ")*([A-H][0-3]?|[a-p])?")) {
                return i - 1;
            }
        }
        return text.matches("(" + ACT + ")*") ? NONE : text.length();
    }

    private int spray(Kept k, int card, int quarters, int colour) {
        boolean[][] holes = turn(k.holes[card], quarters, false);
        int number = Integer.bitCount(bits(holes));
        if (number == 0) {
            return 1;
        }
        if (number > k.drops[colour]) {
            return 2;
        }
        for (int cell = 15; cell >= 0; cell--) {
            int r = cell / 4, s = cell % 4;
            if (!holes[r][s]) {
                continue;
            }
            int was = k.colour[r][s];
            boolean mud = k.wet[r][s] && was != colour;
            k.colour[r][s] = mud ? 6 : colour;
            k.wet[r][s] = true;
            if (mud && was != 6 && (mudAct == NONE || mudAct == acts)) {
                mudAct = acts;
                mudCell = cell;
            }
        }
        k.drops[colour] -= number;
        sprayed += number;
        return 0;
    }

    private int turnOver(Kept k, int card) {
        boolean[][] over = turn(k.holes[card], 0, true);
        if (Arrays.deepEquals(over, k.holes[card])) {
            return 3;
        }
        k.holes[card] = over;
        return 0;
    }

    private int scrape(Kept k, int cell) {
        if (k.colour[cell / 4][cell % 4] == 0) {
            return 4;
        }
        k.colour[cell / 4][cell % 4] = 0;
        k.wet[cell / 4][cell % 4] = false;
        return 0;
    }

    private int hour(Kept k) {
        if (k.hour == 99) {
            return 5;
        }
        k.hour++;
        k.wet = new boolean[4][4];
        return 0;
    }

    private void begin() {
        acts = 0;
        stop = NONE;
        why = NONE;
        sprayed = 0;
        mudAct = NONE;
        mudCell = NONE;
    }

    private Kept play() {
        begin();
        Kept k = now.copy();
        Matcher m = Pattern.compile(ACT).matcher(text);
        while (m.find()) {
            String act = m.group();
            int reason;
            if (act.equals(".")) {
                reason = hour(k);
            } else if (act.endsWith("~")) {
                reason = turnOver(k, act.charAt(0) - 'A');
            } else if (act.endsWith("-")) {
                reason = scrape(k, act.charAt(0) - 'a');
            } else {
                reason = spray(k, act.charAt(0) - 'A', act.charAt(1) - '0', act.charAt(2) - '0');
            }
            if (reason != 0) {
                stop = acts;
                why = reason;
                return k;
            }
            acts++;
        }
        return k;
    }

    int judge(int what) {
        if (fault() != NONE) {
            return NO;
        }
        play();
        return what == 0 ? stop : why;
    }

    /** Null: a fault, or an act that can not be. */
    private Kept behindAll() {
        if (fault() != NONE) {
            return null;
        }
        Kept k = play();
        return stop == NONE ? k : null;
    }

    int done() {
        Kept k = behindAll();
        if (k == null) {
            return NO;
        }
        now = k;
        text = "";
        return acts;
    }

    int behind(int cell, int what) {
        Kept k = behindAll();
        if (k == null) {
            return NO;
        }
        return what == 0 ? k.colour[cell / 4][cell % 4] : k.wet[cell / 4][cell % 4] ? 1 : 0;
    }

    int left(int colour) {
        Kept k = behindAll();
        return k == null ? NO : k.drops[colour];
    }

    private static int count(Kept k, int colour) {
        int count = 0;
        for (int[] row : k.colour) {
            for (int c : row) {
                count += c == colour ? 1 : 0;
            }
        }
        return count;
    }

    int then(int what) {
        Kept k = behindAll();
        if (k == null) {
            return NO;
        }
        return new int[] {count(k, 6), count(k, 0), bits(k.wet), k.hour, sprayed, mudAct, mudCell}[what];
    }

    int turned(int card, int quarters) {
        return bits(turn(now.holes[card], quarters % 4, quarters > 3));
    }

    private int countOrBits(TreeMap<Integer, Integer> leastByCount, int what) {
        if (leastByCount.isEmpty()) {
            return 0;
        }
        return what == 0 ? leastByCount.lastKey() : leastByCount.lastEntry().getValue();
    }

    private int reach(int r, int s, int colour, boolean[][] found) {
        if (r < 0 || r > 3 || s < 0 || s > 3 || found[r][s] || now.colour[r][s] != colour) {
            return 0;
        }
        found[r][s] = true;
        return 1 + reach(r - 1, s, colour, found) + reach(r + 1, s, colour, found)
            + reach(r, s - 1, colour, found) + reach(r, s + 1, colour, found);
    }

    int patch(int what) {
        TreeMap<Integer, Integer> leastByCount = new TreeMap<>();
        for (int cell = 0; cell < 16; cell++) {
            int colour = now.colour[cell / 4][cell % 4];
            if (colour != 0) {
                boolean[][] found = new boolean[4][4];
                int count = reach(cell / 4, cell % 4, colour, found);
                leastByCount.merge(count, bits(found), Math::min);
            }
        }
        return countOrBits(leastByCount, what);
    }

    int box(int what) {
        TreeMap<Integer, Integer> leastByCount = new TreeMap<>();
        for (int from = 0; from < 16; from++) {
            for (int to = from; to < 16; to++) {
                Set<Integer> colours = new HashSet<>();
                boolean[][] box = new boolean[4][4];
                int count = 0;
                for (int r = from / 4; r <= to / 4; r++) {
                    for (int s = from % 4; s <= to % 4; s++) {
                        colours.add(now.colour[r][s]);
                        box[r][s] = true;
                        count++;
                    }
                }
                if (colours.size() == 1 && !colours.contains(0)) {
                    leastByCount.merge(count, bits(box), Math::min);
                }
            }
        }
        return countOrBits(leastByCount, what);
    }

    int cover(int set, int what) {
        for (int number = 1; number <= 8; number++) {
            for (int hand = 0; hand < 256; hand++) {
                int missing = set;
                for (int card = 0; card < 8; card++) {
                    if ((hand >> card & 1) != 0) {
                        missing &= ~bits(now.holes[card]);
                    }
                }
                if (Integer.bitCount(hand) == number && missing == 0) {
                    return what == 0 ? number : hand;
                }
            }
        }
        return NONE;
    }

    /** All walls, each with the orders that make it, as texts. */
    private void orders(String order, int[][] wall, Set<String> walls, List<String> made) {
        walls.add(Arrays.deepToString(wall));
        if (Arrays.deepEquals(wall, now.colour)) {
            made.add(order);
        }
        for (int card = 0; card < 5; card++) {
            if (order.indexOf('0' + card) < 0) {
                int[][] next = new int[4][4];
                for (int r = 0; r < 4; r++) {
                    for (int s = 0; s < 4; s++) {
                        next[r][s] = now.holes[card][r][s] ? card + 1 : wall[r][s];
                    }
                }
                orders(order + card, next, walls, made);
            }
        }
    }

    int pictures() {
        Set<String> walls = new HashSet<>();
        orders("", new int[4][4], walls, new ArrayList<>());
        return walls.size();
    }

    int made(int what) {
        List<String> made = new ArrayList<>();
        orders("", new int[4][4], new HashSet<>(), made);
        if (made.isEmpty()) {
            return NONE;
        }
        made.sort((a, b) -> a.length() != b.length() ? a.length() - b.length() : a.compareTo(b));
        return what == 0 ? made.get(0).length() : Integer.parseInt("1" + made.get(0));
    }

    int seen(int cell, boolean hole) {
        if (now.sights.size() == 8) {
            return FULL;
        }
        now.sights.add(new int[] {cell, hole ? 1 : 0});
        return now.sights.size();
    }

    int forget() {
        int was = now.sights.size();
        now.sights.clear();
        return was;
    }

    private List<Integer> fitting(List<int[]> sights) {
        List<Integer> fitting = new ArrayList<>();
        for (int card = 0; card < 8; card++) {
            for (int quarters = 0; quarters < 4; quarters++) {
                boolean[][] holes = turn(now.holes[card], quarters, false);
                boolean fits = true;
                for (int[] sight : sights) {
                    fits &= holes[sight[0] / 4][sight[0] % 4] == (sight[1] == 1);
                }
                if (fits) {
                    fitting.add(10 * card + quarters);
                }
            }
        }
        return fitting;
    }

    int prints(int i) {
        List<Integer> fitting = fitting(now.sights);
        if (i == -1) {
            return fitting.size();
        }
        return i >= 0 && i < fitting.size() ? fitting.get(i) : NONE;
    }

    int ask(int what) {
        if (prints(-1) == 0) {
            return NONE;
        }
        int best = NONE, fewest = 99;
        for (int cell = 0; cell < 16; cell++) {
            int most = 0;
            for (int hole = 0; hole <= 1; hole++) {
                List<int[]> more = new ArrayList<>(now.sights);
                more.add(new int[] {cell, hole});
                most = Math.max(most, fitting(more).size());
            }
            if (most < fewest) {
                best = cell;
                fewest = most;
            }
        }
        return what == 0 ? best : fewest;
    }

    /** Just k of 16: by how many of the k were missed. */
    private static BigInteger ways(int n, int k) {
        BigInteger ways = BigInteger.ZERO;
        for (int missed = 0; missed <= k; missed++) {
            BigInteger part = choose(k, missed).multiply(BigInteger.valueOf(k - missed).pow(n));
            ways = missed % 2 == 0 ? ways.add(part) : ways.subtract(part);
        }
        return ways.multiply(choose(16, k));
    }

    private static BigInteger choose(int n, int k) {
        BigInteger result = BigInteger.ONE;
        for (int i = 0; i < k; i++) {
            result = result.multiply(BigInteger.valueOf(n - i)).divide(BigInteger.valueOf(i + 1));
        }
        return result;
    }

    long fall(int n, int k, int what, int part) {
        BigInteger upper = ways(n, k);
        BigInteger lower = BigInteger.valueOf(16).pow(n);
        if (what == 1) {
            upper = BigInteger.ZERO;
            for (int each = 0; each <= 16; each++) {
                upper = upper.add(ways(n, each).multiply(BigInteger.valueOf(each)));
            }
        }
        BigInteger common = upper.gcd(lower);
        return (part == 0 ? upper : lower).divide(common).longValueExact();
    }

    int year(int seed, int m, int what) {
        begin();
        Kept k = now.copy();
        long x = seed;
        for (int i = 0; i < m; i++) {
            x = (75 * x + 74) % 65537;
            int y = (int) (x / 8);
            int kind = (int) (x % 8);
            if (kind <= 4) {
                spray(k, y % 8, y / 8 % 4, 1 + y / 32 % 5);
            } else if (kind == 5) {
                turnOver(k, y % 8);
            } else if (kind == 6) {
                scrape(k, y % 16);
            } else {
                hour(k);
            }
        }
        return new int[] {count(k, 6), count(k, 0), sprayed}[what];
    }

    int image(int n) {
        images[n] = now.copy();
        return 1;
    }

    int restore(int n) {
        if (images[n] == null) {
            return STATE;
        }
        now = images[n].copy();
        return 1;
    }

    int told(int what) {
        if (what >= 40) {
            return now.drops[what - 40];
        }
        if (what >= 30) {
            return bits(now.holes[what - 30]);
        }
        if (what >= 10) {
            return now.colour[(what - 10) / 4][(what - 10) % 4];
        }
        return new int[] {text.length(), bits(now.wet), now.hour, now.sights.size()}[what];
    }
}
