import java.util.HashMap;
import java.util.Map;

/** Promises 19 to 28: seen, forget, prints, ask, steps, fall, year, image, restore, told. */
public final class ChanceTest {
    private static final int NONE = -6, UNKNOWN = -1, OUTSIDE = -2, STATE = -3, FULL = -4;
    private static final long LOST_OUTSIDE = -1000000000000000002L;
    private static final int[] FAR = {Integer.MIN_VALUE, -1000000, 1000000, Integer.MAX_VALUE};
    private static final Map<Long, Boolean> WINS = new HashMap<>();

    public static void main(String[] args) {
        seen();
        prints();
        ask();
        steps();
        stepsByPlay();
        fall();
        fallByCounting();
        year();
        yearByKinds();
        yearAtTheEnd();
        yearRefused();
        images();
        twoImages();
        told();
        Check.end();
    }

    private static void seen() {
        StencilWall wall = new StencilWall();
        Check.due("forget() of none", wall.forget(), 0);
        String before = Check.fingerprint(wall);
        Check.due("seen(-1)", wall.seen(-1, true), UNKNOWN);
        Check.due("seen(16)", wall.seen(16, false), UNKNOWN);
        for (int far : FAR) {
            Check.due("seen(" + far + ")", wall.seen(far, true), UNKNOWN);
        }
        Check.unchanged("seen, refused,", wall, before);
        for (int i = 0; i < 8; i++) {
            Check.due("seen: the " + i + "th", wall.seen(i % 2 == 0 ? 3 : 15, false), i + 1);
            Check.due("seen: told", wall.told(3), i + 1);
        }
        Check.due("seen: a ninth", wall.seen(0, true), FULL);
        Check.due("seen: a ninth of no cell", wall.seen(16, true), UNKNOWN);
        Check.due("seen: the ninth is none", wall.prints(-1), 32);
        Check.due("forget() of eight", wall.forget(), 8);
        Check.due("forget: told", wall.told(3), 0);
        Check.due("seen after forget", wall.seen(0, true), 1);
    }

    private static void prints() {
        StencilWall wall = new StencilWall();
        for (int i = 0; i < 32; i++) {
            Check.due("prints(" + i + ")", wall.prints(i), 10 * (i / 4) + i % 4);
        }
        Check.due("prints(32)", wall.prints(32), NONE);
        Check.due("prints(-2)", wall.prints(-2), NONE);
        for (int far : FAR) {
            Check.due("prints(" + far + ")", wall.prints(far), NONE);
        }
        wall.card(2, 15);
        wall.card(7, 1);
        wall.seen(3, true);
        // the card C holds the cell d as it is and by a quarter; H holds it by a quarter alone
        duePrints(wall, 20, 21, 71);
        wall.seen(0, false);
        duePrints(wall, 21, 71);
        wall.seen(15, true);
        duePrints(wall, 21);
        wall.seen(12, false);
        duePrints(wall, 21);
        wall.seen(3, false);
        duePrints(wall);
        wall.forget();
        Check.due("prints(-1) after forget", wall.prints(-1), 32);
        wall.card(7, 0x8001);
        wall.seen(0, true);
        wall.seen(15, true);
        duePrints(wall, 70, 72);
        Check.write(wall, "H~");
        wall.done();
        duePrints(wall, 71, 73);
    }

    private static void duePrints(StencilWall wall, int... due) {
        Check.due("prints(-1)", wall.prints(-1), due.length);
        for (int i = 0; i < due.length; i++) {
            Check.due("prints(" + i + ")", wall.prints(i), due[i]);
        }
        Check.due("prints(" + due.length + ")", wall.prints(due.length), NONE);
    }

    private static void dueAsk(StencilWall wall, int cell, int count) {
        Check.due("ask(0)", wall.ask(0), cell);
        Check.due("ask(1)", wall.ask(1), count);
    }

    private static void ask() {
        StencilWall wall = new StencilWall();
        dueAsk(wall, 0, 32);
        for (int card = 0; card < 8; card++) {
            wall.card(card, card < 4 ? 65535 : 0);
        }
        dueAsk(wall, 0, 16);
        for (int card = 0; card < 4; card++) {
            wall.card(card, 65535 - 0x9009);
        }
        // the corners tell nothing
        dueAsk(wall, 1, 16);
        for (int card = 0; card < 8; card++) {
            wall.card(card, 0x0660);
        }
        // f, g, j, k are holes of all, the others of none: nothing is learnt
        dueAsk(wall, 0, 32);
        for (int card = 4; card < 8; card++) {
            wall.card(card, 0x0600);
        }
        // by four quarters a card of two of the four has each of f, g, j, k twice: 8 of its 16 prints
        dueAsk(wall, 5, 24);
        wall.seen(5, false);
        dueAsk(wall, 6, 4);
        wall.seen(6, true);
        dueAsk(wall, 0, 4);
        wall.seen(0, true);
        dueAsk(wall, NONE, NONE);
        for (int what : new int[] {-1, 2, Integer.MIN_VALUE, Integer.MAX_VALUE}) {
            Check.due("ask(" + what + ")", wall.ask(what), OUTSIDE);
        }
    }

    private static void steps() {
        StencilWall wall = new StencilWall();
        Check.due("steps(1, 1): one can on step 5", wall.steps(1, 1), 51);
        Check.due("steps(10, 0): one can on step 4", wall.steps(10, 0), 0);
        Check.due("steps(10, 1)", wall.steps(10, 1), NONE);
        Check.due("steps(21000, 1)", wall.steps(21000, 1), 12);
        Check.due("steps(13200, 1): 21 and 31 win, the least", wall.steps(13200, 1), 21);
        Check.due("steps(12000, 1)", wall.steps(12000, 1), 11);
        Check.due("steps(2500, 1): down from step 3", wall.steps(2500, 1), 35);
        Check.due("steps(5500, 1): down from step 2", wall.steps(5500, 1), 25);
        Check.due("steps(99999, 1)", wall.steps(99999, 1), 19);
        Check.due("steps(-1, 0)", wall.steps(-1, 0), OUTSIDE);
        Check.due("steps(100000, 0)", wall.steps(100000, 0), OUTSIDE);
        Check.due("steps(0, -1)", wall.steps(0, -1), OUTSIDE);
        Check.due("steps(0, 2)", wall.steps(0, 2), OUTSIDE);
        for (int far : FAR) {
            Check.due("steps(" + far + ", 0)", wall.steps(far, 0), OUTSIDE);
            Check.due("steps(0, " + far + ")", wall.steps(0, far), OUTSIDE);
        }
    }

    /** Every stand of at most two cans a step, and some of more, played out. */
    private static void stepsByPlay() {
        for (int i = 0; i < 243; i++) {
            stepsByPlay(i / 81, i / 27 % 3, i / 9 % 3, i / 3 % 3, i % 3);
        }
        stepsByPlay(4, 1, 3, 0, 1);
        stepsByPlay(0, 5, 2, 1, 1);
        stepsByPlay(1, 3, 2, 4, 0);
        stepsByPlay(7, 0, 5, 0, 2);
        stepsByPlay(9, 9, 1, 0, 0);
        stepsByPlay(1, 1, 0, 6, 3);
    }

    private static void stepsByPlay(int... stand) {
        int cans = 0;
        for (int on : stand) {
            cans = 10 * cans + on;
        }
        int first = firstWin(stand);
        StencilWall wall = new StencilWall();
        Check.due("steps(" + cans + ", 0)", wall.steps(cans, 0), first == NONE ? 0 : 1);
        Check.due("steps(" + cans + ", 1)", wall.steps(cans, 1), first);
    }

    private static int firstWin(int[] stand) {
        for (int step = 0; step < 5; step++) {
            for (int number = 1; number <= stand[step]; number++) {
                int[] after = stand.clone();
                after[step] -= number;
                if (step > 0) {
                    after[step - 1] += number;
                }
                if (!wins(after)) {
                    return 10 * (step + 1) + number;
                }
            }
        }
        return NONE;
    }

    private static boolean wins(int[] stand) {
        long key = 0;
        for (int on : stand) {
            key = 64 * key + on;
        }
        Boolean known = WINS.get(key);
        if (known == null) {
            known = firstWin(stand) != NONE;
            WINS.put(key, known);
        }
        return known;
    }

    private static void dueFall(int n, int k, int what, long upper, long lower) {
        StencilWall wall = new StencilWall();
        String call = "fall(" + n + ", " + k + ", " + what + ", ";
        Check.due(call + "0)", wall.fall(n, k, what, 0), upper);
        Check.due(call + "1)", wall.fall(n, k, what, 1), lower);
    }

    private static void fall() {
        dueFall(0, 0, 0, 1, 1);
        dueFall(0, 1, 0, 0, 1);
        dueFall(0, 16, 1, 0, 1);
        dueFall(1, 0, 0, 0, 1);
        dueFall(1, 1, 0, 1, 1);
        dueFall(1, 2, 0, 0, 1);
        dueFall(3, 3, 0, 105, 128);
        dueFall(3, 2, 0, 45, 256);
        dueFall(3, 0, 1, 721, 256);
        dueFall(10, 16, 0, 0, 1);
        dueFall(10, 1, 0, 1, 68719476736L);
        StencilWall wall = new StencilWall();
        int[][] wrong = {{-1, 0, 0, 0}, {11, 0, 0, 0}, {0, -1, 0, 0}, {0, 17, 0, 0}, {0, 0, -1, 0}, {0, 0, 2, 0},
            {0, 0, 0, -1}, {0, 0, 0, 2}, {0, 17, 1, 0}, {0, -1, 1, 1}};
        for (int[] w : wrong) {
            Check.due("fall, refused", wall.fall(w[0], w[1], w[2], w[3]), LOST_OUTSIDE);
        }
        for (int far : FAR) {
            Check.due("fall: n " + far, wall.fall(far, 0, 0, 0), LOST_OUTSIDE);
            Check.due("fall: k " + far, wall.fall(1, far, 1, 0), LOST_OUTSIDE);
            Check.due("fall: what " + far, wall.fall(1, 0, far, 0), LOST_OUTSIDE);
            Check.due("fall: part " + far, wall.fall(1, 0, 0, far), LOST_OUTSIDE);
        }
    }

    /** All ways of up to four drops, one by one. */
    private static void fallByCounting() {
        for (int n = 0; n <= 4; n++) {
            int all = 1 << 4 * n;
            long[] ways = new long[17];
            long hits = 0;
            for (int way = 0; way < all; way++) {
                int set = 0;
                for (int drop = 0; drop < n; drop++) {
                    set |= 1 << (way >> 4 * drop & 15);
                }
                ways[Integer.bitCount(set)]++;
                hits += Integer.bitCount(set);
            }
            for (int k = 0; k <= 16; k++) {
                dueFall(n, k, 0, ways[k] / common(ways[k], all), all / common(ways[k], all));
                dueFall(n, k, 1, hits / common(hits, all), all / common(hits, all));
            }
        }
    }

    private static long common(long a, long b) {
        return b == 0 ? a : common(b, a % b);
    }

    private static void dueYear(StencilWall wall, int seed, int m, int... due) {
        for (int what = 0; what <= 2; what++) {
            Check.due("year(" + seed + ", " + m + ", " + what + ")", wall.year(seed, m, what), due[what]);
        }
    }

    private static void year() {
        StencilWall wall = new StencilWall();
        dueYear(wall, 0, 99, 0, 16, 0);
        // x is 74: by 8 it leaves 2, y is 9: the card B, by a quarter, with colour 1
        wall.card(1, 0x0011);
        dueYear(wall, 0, 1, 0, 14, 2);
        wall.can(1, 1);
        dueYear(wall, 0, 1, 0, 16, 0);
        wall.can(1, 2);
        wall.lay(3, 2, 1);
        String before = Check.fingerprint(wall);
        dueYear(wall, 0, 1, 1, 14, 2);
        Check.unchanged("year", wall, before);
        // seed 67: x is 5099, kind 3, y 637: the card F, by 3 quarters, with colour 1 and 19 left over by 5, so 5
        wall.card(5, 1);
        wall.can(5, 1);
        dueYear(wall, 67, 1, 0, 14, 1);
        wall.lay(12, 6, 0);
        dueYear(wall, 67, 1, 0, 14, 1);
        wall.lay(12, 6, 1);
        dueYear(wall, 67, 1, 1, 14, 1);
    }

    private static void yearByKinds() {
        StencilWall wall = new StencilWall();
        wall.card(1, 0x0001);
        wall.lay(15, 5, 1);
        wall.lay(3, 5, 1);
        // seed 1036: the card B is turned over, then sprayed by a quarter with colour 2: on the cell p
        dueYear(wall, 1036, 1, 0, 14, 0);
        dueYear(wall, 1036, 2, 1, 14, 1);
        wall.card(1, 0x0009);
        // now it can not be turned over: on the cells d and p
        dueYear(wall, 1036, 2, 2, 14, 2);
        // seed 1023: the cell p is scraped, then the card F sprayed, by two quarters, with colour 3
        dueYear(wall, 1023, 1, 0, 15, 0);
        wall.card(5, 0x0003);
        dueYear(wall, 1023, 2, 0, 13, 2);
        // scraping takes no hour: the cell o is wet still, and goes to mud
        wall.lay(14, 5, 1);
        dueYear(wall, 1023, 2, 1, 13, 2);
        wall.lay(14, 0, 0);
        wall.lay(15, 0, 0);
        dueYear(wall, 1023, 2, 0, 13, 2);
        // seed 1010: an hour, then the card A is sprayed, with colour 4
        wall.card(0, 0x000f);
        dueYear(wall, 1010, 2, 0, 12, 4);
        wall.can(4, 3);
        dueYear(wall, 1010, 2, 0, 15, 0);
        // seed 9999: the card E, by two quarters, with colour 4
        wall.card(4, 0x0007);
        wall.lay(14, 1, 1);
        dueYear(wall, 9999, 1, 1, 12, 3);
    }

    /** At hour 99 what is wet stays wet. */
    private static void yearAtTheEnd() {
        StencilWall wall = new StencilWall();
        wall.card(0, 0x000f);
        wall.lay(3, 5, 1);
        Check.write(wall, ".".repeat(60));
        wall.done();
        Check.write(wall, ".".repeat(38));
        wall.done();
        wall.lay(3, 5, 1);
        dueYear(wall, 1010, 2, 0, 12, 4);
        Check.write(wall, ".");
        wall.done();
        wall.lay(3, 5, 1);
        dueYear(wall, 1010, 2, 1, 12, 4);
    }

    private static void yearRefused() {
        StencilWall wall = new StencilWall();
        wall.card(0, 65535);
        String before = Check.fingerprint(wall);
        int[][] wrong = {{-1, 1, 0}, {10000, 1, 0}, {0, 0, 0}, {0, 100, 0}, {0, -1, 0}, {0, 1, -1}, {0, 1, 3}};
        for (int[] w : wrong) {
            Check.due("year, refused", wall.year(w[0], w[1], w[2]), OUTSIDE);
        }
        for (int far : FAR) {
            Check.due("year: seed " + far, wall.year(far, 1, 0), OUTSIDE);
            Check.due("year: m " + far, wall.year(0, far, 0), OUTSIDE);
            Check.due("year: what " + far, wall.year(0, 1, far), OUTSIDE);
        }
        wall.year(9999, 99, 2);
        Check.unchanged("year", wall, before);
    }

    private static StencilWall painted() {
        StencilWall wall = new StencilWall();
        wall.card(0, 0x0123);
        wall.can(3, 7);
        wall.lay(5, 4, 1);
        wall.lay(6, 6, 0);
        wall.seen(2, true);
        wall.seen(3, false);
        Check.write(wall, "..A01A~");
        wall.done();
        return wall;
    }

    private static void images() {
        StencilWall wall = painted();
        Check.write(wall, "A01");
        String kept = Check.fingerprint(wall);
        Check.due("image(1)", wall.image(1), 1);
        Check.unchanged("image", wall, kept);
        Check.due("restore(0): not kept", wall.restore(0), STATE);
        changeAll(wall);
        Check.due("restore(1)", wall.restore(1), 1);
        Check.unchanged("keeping and restoring", wall, kept);
        changeAll(wall);
        Check.due("restore(1) again", wall.restore(1), 1);
        Check.unchanged("an image stays kept; restoring", wall, kept);
    }

    private static void twoImages() {
        StencilWall wall = painted();
        Check.due("image(1)", wall.image(1), 1);
        changeAll(wall);
        Check.due("image(0)", wall.image(0), 1);
        String other = Check.fingerprint(wall);
        Check.due("restore(1)", wall.restore(1), 1);
        Check.due("restore(0)", wall.restore(0), 1);
        Check.unchanged("restoring the other", wall, other);
        Check.write(wall, ".");
        Check.due("restore(1): the pad stays", wall.restore(1), 1);
        Check.due("restore: its signs", wall.told(0), 1);
        Check.due("restore: an hour more than kept", wall.then(3), 3);
        Check.due("image(1) anew", wall.image(1), 1);
        for (int n : new int[] {-1, 2, Integer.MIN_VALUE, Integer.MAX_VALUE}) {
            Check.due("image(" + n + ")", wall.image(n), OUTSIDE);
            Check.due("restore(" + n + ")", wall.restore(n), OUTSIDE);
        }
    }

    /** Leaves the same text on the pad, for the pad is in no image. */
    private static void changeAll(StencilWall wall) {
        Check.write(wall, "A02....");
        wall.done();
        wall.card(0, 0x4567);
        wall.card(7, 3);
        wall.can(3, 9);
        wall.can(5, 0);
        wall.lay(5, 0, 0);
        wall.lay(15, 5, 1);
        wall.forget();
        wall.seen(9, true);
        Check.write(wall, "A01");
    }

    private static void told() {
        StencilWall wall = painted();
        Check.write(wall, "ab");
        Check.due("told(0)", wall.told(0), 2);
        // the hours dried all; then a, b, f, i are under A's holes
        Check.due("told(1)", wall.told(1), 0x0123);
        Check.due("told(2)", wall.told(2), 2);
        Check.due("told(3)", wall.told(3), 2);
        Check.due("told(15)", wall.told(15), 1);
        Check.due("told(16)", wall.told(16), 6);
        Check.due("told(18)", wall.told(18), 1);
        Check.due("told(25)", wall.told(25), 0);
        Check.due("told(30): turned over", wall.told(30), 0x084c);
        Check.due("told(37)", wall.told(37), 0);
        Check.due("told(41)", wall.told(41), 46);
        Check.due("told(43)", wall.told(43), 7);
        for (int what : new int[] {-1, 4, 9, 26, 29, 38, 40, 46, Integer.MIN_VALUE, Integer.MAX_VALUE}) {
            Check.due("told(" + what + ")", wall.told(what), OUTSIDE);
        }
    }
}
