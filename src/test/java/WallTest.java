/** Promises 1 to 7: a new object, lay, card, can, say, wipe, fault. */
public final class WallTest {
    private static final int NONE = -6, UNKNOWN = -1, OUTSIDE = -2, FULL = -4;
    private static final int[] FAR = {Integer.MIN_VALUE, -1000000, 1000000, Integer.MAX_VALUE};

    public static void main(String[] args) {
        newObject();
        lay();
        layRefused();
        card();
        can();
        say();
        fault();
        Check.end();
    }

    private static void newObject() {
        StencilWall wall = new StencilWall();
        for (int cell = 0; cell < 16; cell++) {
            Check.due("new: colour of " + cell, wall.told(10 + cell), 0);
        }
        for (int card = 0; card < 8; card++) {
            Check.due("new: holes of " + card, wall.told(30 + card), 0);
        }
        for (int colour = 1; colour <= 5; colour++) {
            Check.due("new: drops of " + colour, wall.told(40 + colour), 50);
        }
        for (int what = 0; what <= 3; what++) {
            Check.due("new: told(" + what + ")", wall.told(what), 0);
        }
        Check.due("new: restore(0)", wall.restore(0), -3);
        Check.due("new: restore(1)", wall.restore(1), -3);
        StencilWall other = new StencilWall();
        other.lay(3, 2, 1);
        Check.due("two objects share nothing", wall.told(13), 0);
    }

    private static void lay() {
        StencilWall wall = new StencilWall();
        for (int cell = 0; cell < 16; cell++) {
            Check.due("lay: was bare", wall.lay(cell, cell % 7, 0), 0);
        }
        for (int cell = 0; cell < 16; cell++) {
            Check.due("lay: is laid", wall.told(10 + cell), cell % 7);
        }
        Check.due("lay: none is wet", wall.told(1), 0);
        for (int cell = 0; cell < 16; cell++) {
            Check.due("lay: was laid", wall.lay(cell, 6, 1), cell % 7);
        }
        Check.due("lay: all are wet", wall.told(1), 65535);
        Check.due("lay: dry again", wall.lay(4, 6, 0), 6);
        Check.due("lay: one is dry", wall.told(1), 65535 - 16);
        Check.due("lay: bare again", wall.lay(15, 0, 0), 6);
        Check.due("lay: a bare one is dry", wall.told(1), 32767 - 16);
        Check.due("lay: mud", wall.then(0), 15);
    }

    private static void layRefused() {
        StencilWall wall = new StencilWall();
        wall.lay(0, 3, 1);
        String before = Check.fingerprint(wall);
        Check.due("lay(-1, 1, 0)", wall.lay(-1, 1, 0), UNKNOWN);
        Check.due("lay(16, 1, 0)", wall.lay(16, 1, 0), UNKNOWN);
        Check.due("lay(16, 9, 9): the cell first", wall.lay(16, 9, 9), UNKNOWN);
        Check.due("lay(0, -1, 0)", wall.lay(0, -1, 0), OUTSIDE);
        Check.due("lay(0, 7, 0)", wall.lay(0, 7, 0), OUTSIDE);
        Check.due("lay(0, 1, -1)", wall.lay(0, 1, -1), OUTSIDE);
        Check.due("lay(0, 1, 2)", wall.lay(0, 1, 2), OUTSIDE);
        Check.due("lay(0, 0, 1): a bare one is not wet", wall.lay(0, 0, 1), OUTSIDE);
        for (int far : FAR) {
            Check.due("lay: cell " + far, wall.lay(far, 1, 0), UNKNOWN);
            Check.due("lay: colour " + far, wall.lay(0, far, 0), OUTSIDE);
            Check.due("lay: wet " + far, wall.lay(0, 1, far), OUTSIDE);
        }
        Check.unchanged("lay, refused,", wall, before);
    }

    private static void card() {
        StencilWall wall = new StencilWall();
        for (int card = 0; card < 8; card++) {
            Check.due("card: had none", wall.card(card, 65535 - card), 0);
        }
        for (int card = 0; card < 8; card++) {
            Check.due("card: told", wall.told(30 + card), 65535 - card);
            Check.due("card: had", wall.card(card, card), 65535 - card);
        }
        String before = Check.fingerprint(wall);
        Check.due("card(-1, 0)", wall.card(-1, 0), UNKNOWN);
        Check.due("card(8, 0)", wall.card(8, 0), UNKNOWN);
        Check.due("card(8, -1): the card first", wall.card(8, -1), UNKNOWN);
        Check.due("card(0, -1)", wall.card(0, -1), OUTSIDE);
        Check.due("card(0, 65536)", wall.card(0, 65536), OUTSIDE);
        for (int far : FAR) {
            Check.due("card: card " + far, wall.card(far, 0), UNKNOWN);
            Check.due("card: holes " + far, wall.card(0, far), OUTSIDE);
        }
        Check.unchanged("card, refused,", wall, before);
    }

    private static void can() {
        StencilWall wall = new StencilWall();
        for (int colour = 1; colour <= 5; colour++) {
            Check.due("can: had", wall.can(colour, 990 + colour), 50);
        }
        for (int colour = 1; colour <= 5; colour++) {
            Check.due("can: told", wall.told(40 + colour), 990 + colour);
        }
        Check.due("can(1, 999)", wall.can(1, 999), 991);
        Check.due("can(1, 0)", wall.can(1, 0), 999);
        Check.due("can(1, 0) again", wall.can(1, 0), 0);
        String before = Check.fingerprint(wall);
        Check.due("can(0, 1)", wall.can(0, 1), UNKNOWN);
        Check.due("can(6, 1)", wall.can(6, 1), UNKNOWN);
        Check.due("can(6, -1): the colour first", wall.can(6, -1), UNKNOWN);
        Check.due("can(1, -1)", wall.can(1, -1), OUTSIDE);
        Check.due("can(1, 1000)", wall.can(1, 1000), OUTSIDE);
        for (int far : FAR) {
            Check.due("can: colour " + far, wall.can(far, 0), UNKNOWN);
            Check.due("can: drops " + far, wall.can(1, far), OUTSIDE);
        }
        Check.unchanged("can, refused,", wall, before);
    }

    private static void say() {
        StencilWall wall = new StencilWall();
        Check.due("say(32)", wall.say(32), OUTSIDE);
        Check.due("say(127)", wall.say(127), OUTSIDE);
        for (int far : FAR) {
            Check.due("say(" + far + ")", wall.say(far), OUTSIDE);
        }
        Check.due("say: no sign came", wall.told(0), 0);
        Check.due("say(33)", wall.say(33), 1);
        Check.due("say(126)", wall.say(126), 2);
        Check.due("say: two signs", wall.told(0), 2);
        Check.due("wipe()", wall.wipe(), 2);
        Check.due("wipe() again", wall.wipe(), 0);
        Check.due("wipe: no signs", wall.told(0), 0);
        Check.write(wall, "............................................................");
        Check.due("say: sixty signs", wall.told(0), 60);
        Check.due("say: one more", wall.say(46), FULL);
        Check.due("say: one more that is none", wall.say(32), OUTSIDE);
        Check.due("say: sixty signs still", wall.told(0), 60);
        Check.due("say: sixty hours", wall.then(3), 60);
        Check.due("wipe() of sixty", wall.wipe(), 60);
        Check.due("say: room again", wall.say(46), 1);
    }

    private static void fault() {
        dueFault("", NONE);
        dueFault(".", NONE);
        dueFault("A01", NONE);
        dueFault("H35", NONE);
        dueFault("H~", NONE);
        dueFault("a-", NONE);
        dueFault("p-", NONE);
        dueFault("A01.B~b-..C25", NONE);
        dueFault("A", 1);
        dueFault("A0", 2);
        dueFault("a", 1);
        dueFault(".A~B", 4);
        dueFault("A01B3", 5);
        dueFault("@", 0);
        dueFault("I", 0);
        dueFault("`", 0);
        dueFault("q", 0);
        dueFault("~", 0);
        dueFault("-", 0);
        dueFault("0", 0);
        dueFault("..,", 2);
        dueFault("A4", 1);
        dueFault("A/", 1);
        dueFault("A-", 1);
        dueFault("A.", 1);
        dueFault("AB", 1);
        dueFault("A00", 2);
        dueFault("A06", 2);
        dueFault("A0~", 2);
        dueFault("A0.", 2);
        dueFault("a~", 1);
        dueFault("ab-", 1);
        dueFault("a0", 1);
        dueFault("A~~", 2);
        dueFault("a--", 2);
        dueFault("A011", 3);
        dueFault("A01Z", 3);
        dueFault("Z!", 0);
    }

    private static void dueFault(String text, int due) {
        StencilWall wall = new StencilWall();
        Check.write(wall, text);
        Check.due("fault of '" + text + "'", wall.fault(), due);
        Check.due("fault of '" + text + "', again", wall.fault(), due);
        Check.due("fault leaves the pad", wall.told(0), text.length());
    }
}
