import java.util.regex.Pattern;

/** Promises 8 to 13: judge, done, behind, left, then, turned. */
public final class EveningTest {
    private static final int NONE = -6, UNKNOWN = -1, OUTSIDE = -2, NO = -5;
    private static final int[] FAR = {Integer.MIN_VALUE, -1, 1000000, Integer.MAX_VALUE};

    public static void main(String[] args) {
        judge();
        judgeRefused();
        lateHours();
        done();
        behind();
        left();
        then();
        firstMud();
        refusedBehind();
        turned();
        Check.end();
    }

    /** Card A has the first row, B the first place of each row, C the cell a, D none; two drops of colour 2. */
    private static StencilWall ready() {
        StencilWall wall = new StencilWall();
        wall.card(0, 15);
        wall.card(1, 4369);
        wall.card(2, 1);
        wall.can(2, 2);
        return wall;
    }

    private static void dueJudged(String text, int act, int why) {
        StencilWall wall = ready();
        wall.lay(15, 6, 1);
        Check.write(wall, text);
        String before = Check.fingerprint(wall);
        Check.due("judge(0) of " + text, wall.judge(0), act);
        Check.due("judge(1) of " + text, wall.judge(1), why);
        Check.unchanged("judge", wall, before);
        Check.due("done() of " + text, wall.done(), act == NONE ? wholeActs(text) : NO);
    }

    private static int wholeActs(String text) {
        return (int) Pattern.compile("[A-H][0-3][1-5]|[A-H]~|[a-p]-|\\.").matcher(text).results().count();
    }

    private static void judge() {
        dueJudged("", NONE, NONE);
        dueJudged("A01", NONE, NONE);
        dueJudged("D01", 0, 1);
        dueJudged("A02", 0, 2);
        dueJudged("C02", NONE, NONE);
        dueJudged("C02C02", NONE, NONE);
        dueJudged("C02C02C02", 2, 2);
        dueJudged("D02", 0, 1);
        dueJudged("A~", 0, 3);
        dueJudged("D~", 0, 3);
        dueJudged("B~", NONE, NONE);
        dueJudged("B~B~", NONE, NONE);
        dueJudged("a-", 0, 4);
        dueJudged("p-", NONE, NONE);
        dueJudged("p-p-", 1, 4);
        dueJudged("C01a-.a-", 3, 4);
        dueJudged("..A01.A~D01", 4, 3);
        dueJudged("A01A01A01A01A01A01A01A01A01A01A01A01", NONE, NONE);
        dueJudged("A01A01A01A01A01A01A01A01A01A01A01A01A01", 12, 2);
        dueJudged("A01A01A01A01A01A01A01A01A01A01A01A01C01C01C01", 14, 2);
    }

    private static void judgeRefused() {
        StencilWall wall = ready();
        Check.due("judge(2)", wall.judge(2), OUTSIDE);
        for (int far : FAR) {
            Check.due("judge(" + far + ")", wall.judge(far), OUTSIDE);
        }
        Check.write(wall, "D01A");
        Check.due("judge(0) of a fault", wall.judge(0), NO);
        Check.due("judge(1) of a fault", wall.judge(1), NO);
        Check.due("judge(2) of a fault", wall.judge(2), OUTSIDE);
        Check.due("done() of a fault", wall.done(), NO);
        Check.due("done, refused, leaves the pad", wall.told(0), 4);
    }

    private static void lateHours() {
        StencilWall wall = ready();
        Check.write(wall, "............................................................");
        Check.due("sixty hours", wall.done(), 60);
        Check.write(wall, ".......................................");
        Check.due("hour 99 can be", wall.judge(0), NONE);
        Check.due("hour 99", wall.then(3), 99);
        wall.say('.');
        Check.due("hour 100: which", wall.judge(0), 39);
        Check.due("hour 100: why", wall.judge(1), 5);
        Check.due("hour 100: not done", wall.done(), NO);
        Check.due("hour 60 still", wall.told(2), 60);
        Check.write(wall, ".......................................");
        Check.due("hour 99, done", wall.done(), 39);
        Check.due("hour 99, told", wall.told(2), 99);
        Check.write(wall, "A01.");
        Check.due("an hour after 99: which", wall.judge(0), 1);
        Check.due("an hour after 99: why", wall.judge(1), 5);
        Check.write(wall, "A01");
        Check.due("spraying at hour 99", wall.done(), 1);
    }

    private static void done() {
        StencilWall wall = ready();
        Check.write(wall, "A01.B13B~c-C02");
        Check.due("done()", wall.done(), 6);
        Check.due("done: the pad is empty", wall.told(0), 0);
        Check.due("done: the hour", wall.told(2), 1);
        // B by a quarter is the first row, in colour 3; c is scraped; the cell a was wet of 3 and is mud
        int[] colours = {6, 3, 0, 3};
        for (int cell = 0; cell < 16; cell++) {
            Check.due("done: colour of " + cell, wall.told(10 + cell), cell < 4 ? colours[cell] : 0);
        }
        Check.due("done: wet ones", wall.told(1), 1 + 2 + 8);
        Check.due("done: B is turned over", wall.told(31), 34952);
        Check.due("done: A is not", wall.told(30), 15);
        int[] drops = {46, 1, 46, 50, 50};
        for (int colour = 1; colour <= 5; colour++) {
            Check.due("done: drops of " + colour, wall.told(40 + colour), drops[colour - 1]);
        }
        Check.due("done() of an empty pad", wall.done(), 0);
        Check.write(wall, ".A04A01");
        wall.can(4, 3);
        String before = Check.fingerprint(wall);
        Check.due("done() of too few drops", wall.done(), NO);
        Check.unchanged("done, refused,", wall, before);
        wall.seen(0, true);
        Check.write(wall, ".");
        wall.done();
        Check.due("done: sights stay", wall.told(3), 1);
    }

    private static void dueBehind(String text, int cell, int colour, int wet) {
        StencilWall wall = ready();
        wall.lay(0, 1, 1);
        wall.lay(4, 1, 0);
        wall.lay(8, 6, 1);
        wall.lay(12, 6, 0);
        Check.write(wall, text);
        String before = Check.fingerprint(wall);
        Check.due("behind(" + cell + ", 0) of " + text, wall.behind(cell, 0), colour);
        Check.due("behind(" + cell + ", 1) of " + text, wall.behind(cell, 1), wet);
        Check.unchanged("behind", wall, before);
    }

    private static void behind() {
        dueBehind("", 0, 1, 1);
        dueBehind("", 4, 1, 0);
        dueBehind("", 8, 6, 1);
        dueBehind("", 1, 0, 0);
        dueBehind("B01", 0, 1, 1);
        dueBehind("B03", 0, 6, 1);
        dueBehind("B03", 4, 3, 1);
        dueBehind("B03", 8, 6, 1);
        dueBehind("B03", 12, 3, 1);
        dueBehind("B03B03", 4, 3, 1);
        dueBehind("B03B04", 4, 6, 1);
        dueBehind("B03B04B03", 4, 6, 1);
        dueBehind(".", 0, 1, 0);
        dueBehind(".", 8, 6, 0);
        dueBehind(".B03", 0, 3, 1);
        dueBehind(".B03", 8, 3, 1);
        dueBehind("B03.B04", 4, 4, 1);
        dueBehind("a-", 0, 0, 0);
        dueBehind("a-B03", 0, 3, 1);
        dueBehind("i-", 8, 0, 0);
        dueBehind("i-B05", 8, 5, 1);
        dueBehind("B03e-", 4, 0, 0);
        dueBehind("B~B03", 4, 1, 0);
        dueBehind("B~B03", 7, 3, 1);
        dueBehind("B~B23", 4, 3, 1);
        dueBehind("A13", 15, 3, 1);
        dueBehind("A23", 13, 3, 1);
        dueBehind("A33", 12, 3, 1);
    }

    private static void left() {
        StencilWall wall = ready();
        Check.due("left(2)", wall.left(2), 2);
        Check.write(wall, "A01B11C02A05.C02");
        int[] left = {42, 0, 50, 50, 46};
        String before = Check.fingerprint(wall);
        for (int colour = 1; colour <= 5; colour++) {
            Check.due("left(" + colour + ")", wall.left(colour), left[colour - 1]);
        }
        Check.unchanged("left", wall, before);
    }

    private static void dueThen(String text, int... due) {
        StencilWall wall = ready();
        wall.lay(0, 1, 1);
        wall.lay(4, 2, 1);
        wall.lay(15, 6, 1);
        Check.write(wall, text);
        for (int what = 0; what <= 6; what++) {
            Check.due("then(" + what + ") of " + text, wall.then(what), due[what]);
        }
    }

    private static void then() {
        dueThen("", 1, 13, 1 + 16 + 32768, 0, 0, NONE, NONE);
        dueThen("...", 1, 13, 0, 3, 0, NONE, NONE);
        dueThen("A01", 1, 10, 15 + 16 + 32768, 0, 4, NONE, NONE);
        dueThen("A03", 2, 10, 15 + 16 + 32768, 0, 4, 0, 0);
        dueThen("A01B03", 3, 8, 15 + 4368 + 32768, 0, 8, 1, 0);
        dueThen("B01", 2, 11, 4369 + 32768, 0, 4, 0, 4);
        dueThen("B01B01.a-", 2, 12, 0, 1, 8, 0, 4);
        dueThen("A13", 1, 10, 1 + 16 + 34952, 0, 4, NONE, NONE);
        dueThen("p-.A03", 0, 11, 15, 1, 4, NONE, NONE);
        dueThen("B01e-B03", 4, 11, 4369 + 32768, 0, 8, 0, 4);
        dueThen("C01C03a-C03C04", 2, 13, 1 + 16 + 32768, 0, 4, 1, 0);
    }

    /** Mud that is mud again is not the first mud; the least of the cells that became mud is told. */
    private static void firstMud() {
        StencilWall wall = ready();
        wall.lay(0, 6, 1);
        wall.lay(1, 6, 1);
        wall.lay(3, 2, 1);
        wall.lay(2, 2, 1);
        Check.write(wall, "C03A03");
        Check.due("first mud: the act", wall.then(5), 1);
        Check.due("first mud: the cell", wall.then(6), 2);
        wall.say('A');
        Check.due("then() of a fault", wall.then(5), NO);
    }

    private static void refusedBehind() {
        refusedByNumbers(ready());
        for (String text : new String[] {"A", "A01Q", "D01", "A02", "A01a-a-"}) {
            StencilWall wall = ready();
            Check.write(wall, text);
            String before = Check.fingerprint(wall);
            refusedByNumbers(wall);
            Check.due("behind(0, 0) of " + text, wall.behind(0, 0), NO);
            Check.due("behind(15, 1) of " + text, wall.behind(15, 1), NO);
            Check.due("left(1) of " + text, wall.left(1), NO);
            for (int what = 0; what <= 6; what++) {
                Check.due("then(" + what + ") of " + text, wall.then(what), NO);
            }
            Check.due("done() of " + text, wall.done(), NO);
            Check.unchanged("what is refused", wall, before);
        }
    }

    private static void refusedByNumbers(StencilWall wall) {
        Check.due("behind(16, 0)", wall.behind(16, 0), UNKNOWN);
        Check.due("behind(16, 2): the cell first", wall.behind(16, 2), UNKNOWN);
        Check.due("behind(0, 2)", wall.behind(0, 2), OUTSIDE);
        Check.due("left(0)", wall.left(0), UNKNOWN);
        Check.due("left(6)", wall.left(6), UNKNOWN);
        Check.due("then(7)", wall.then(7), OUTSIDE);
        for (int far : FAR) {
            Check.due("behind(" + far + ", 0)", wall.behind(far, 0), UNKNOWN);
            Check.due("behind(0, " + far + ")", wall.behind(0, far), OUTSIDE);
            Check.due("left(" + far + ")", wall.left(far), UNKNOWN);
            Check.due("then(" + far + ")", wall.then(far), OUTSIDE);
        }
    }

    private static void turned() {
        StencilWall wall = new StencilWall();
        for (int cell = 0; cell < 16; cell++) {
            wall.card(7, 1 << cell);
            for (int quarters = 0; quarters < 8; quarters++) {
                int row = cell / 4;
                int place = quarters >= 4 ? 3 - cell % 4 : cell % 4;
                for (int i = 0; i < quarters % 4; i++) {
                    int before = row;
                    row = place;
                    place = 3 - before;
                }
                Check.due("turned: " + cell + " by " + quarters, wall.turned(7, quarters), 1 << 4 * row + place);
            }
        }
        wall.card(0, 0x7123);
        // its rows, from the left: 1100, 0100, 1000, 1110
        Check.due("turned(0, 0)", wall.turned(0, 0), 0x7123);
        Check.due("turned(0, 1)", wall.turned(0, 1), rows("1101", "1011", "1000", "0000"));
        Check.due("turned(0, 2)", wall.turned(0, 2), rows("0111", "0001", "0010", "0011"));
        Check.due("turned(0, 4)", wall.turned(0, 4), rows("0011", "0010", "0001", "0111"));
        Check.due("turned: the card stays", wall.told(30), 0x7123);
        Check.due("turned(-1, 0)", wall.turned(-1, 0), UNKNOWN);
        Check.due("turned(8, 0)", wall.turned(8, 0), UNKNOWN);
        Check.due("turned(8, 8): the card first", wall.turned(8, 8), UNKNOWN);
        Check.due("turned(0, 8)", wall.turned(0, 8), OUTSIDE);
        for (int far : FAR) {
            Check.due("turned(" + far + ", 0)", wall.turned(far, 0), UNKNOWN);
            Check.due("turned(0, " + far + ")", wall.turned(0, far), OUTSIDE);
        }
    }

    private static int rows(String... rows) {
        int set = 0;
        for (int cell = 0; cell < 16; cell++) {
            if (rows[cell / 4].charAt(cell % 4) == '1') {
                set |= 1 << cell;
            }
        }
        return set;
    }
}
