/** Each refusal that a promise names: at the last number that is as told, at the first that is not, at the ends of int. */
public final class EdgesTest {
    private static final int NONE = -6, UNKNOWN = -1, OUTSIDE = -2, STATE = -3, FULL = -4, NO = -5;
    private static final long LOST_OUTSIDE = Rich.LOST - 2;
    private static final String SIXTY = ".".repeat(60);
    /** Texts with a fault: a sign that can not stand there, or one that lacks. */
    private static final String[] FAULTS = {"?", "A", "A0", "a", "A01B14Q", "p-.H2"};
    /** Texts without a fault, of the rich wall, with one act that can not be. */
    private static final String[] STOPS = {"D01", "A03", "A~", "b-", "B14D~", "H02"};

    public static void main(String[] args) {
        promise1();
        theRichWall();
        promise2();
        promise3();
        promise4();
        promise5();
        promise6And7();
        promise8();
        promise9();
        promise10();
        promise11();
        promise12();
        promise13();
        promise14And15();
        promise16();
        promise17();
        promise18();
        promise19();
        promise20();
        promise21();
        promise22();
        promise23();
        promise24();
        promise25();
        promise26();
        promise27();
        promise28();
        Check.end();
    }

    private static void promise1() {
        StencilWall wall = new StencilWall();
        Check.of(1, "all is bare, and dry");
        for (int cell = 0; cell < 16; cell++) {
            Check.due("told(" + (10 + cell) + ")", wall.told(10 + cell), 0);
        }
        Check.due("told(1)", wall.told(1), 0);
        Check.of(1, "CARDS have no HOLES");
        for (int card = 0; card < 8; card++) {
            Check.due("told(" + (30 + card) + ")", wall.told(30 + card), 0);
        }
        Check.of(1, "50 DROPS of each COLOUR at first");
        for (int colour = 1; colour <= 5; colour++) {
            Check.due("told(" + (40 + colour) + ")", wall.told(40 + colour), 50);
        }
        Check.of(1, "no signs, hour 0, no SIGHTS, no IMAGE at first");
        Check.due("told(0)", wall.told(0), 0);
        Check.due("told(2)", wall.told(2), 0);
        Check.due("told(3)", wall.told(3), 0);
        Check.due("restore(0)", wall.restore(0), STATE);
        Check.due("restore(1)", wall.restore(1), STATE);
        Check.of(1, "what is done to one object is not done to another");
        Rich.wall();
        Check.due("told(10)", wall.told(10), 0);
        Check.due("told(30)", new StencilWall().told(30), 0);
    }

    private static void theRichWall() {
        Check.of(1, "the wall that these tests use");
        StencilWall wall = Rich.wall();
        Check.due("signs", wall.told(0), 14);
        Check.due("judged", wall.judge(0), NONE);
        Check.due("acts", wall.done(), 6);
        Check.that("it is alike each time", Rich.whole(Rich.wall()).equals(Rich.whole(Rich.wall())));
        Check.that("it is unlike a new one", !Rich.whole(Rich.wall()).equals(Rich.whole(new StencilWall())));
    }

    private static void promise2() {
        Check.of(2, "UNKNOWN: the CELL (0 to 15)");
        Rich.bounds("lay: cell", 0, 15, UNKNOWN, (w, n) -> w.lay(n, 5, 1));
        Check.of(2, "OUTSIDE: the COLOUR 0 to 6");
        Rich.bounds("lay: colour", 0, 6, OUTSIDE, (w, n) -> w.lay(0, n, 0));
        Rich.bounds("lay: colour, of the last cell", 0, 6, OUTSIDE, (w, n) -> w.lay(15, n, 0));
        Check.of(2, "OUTSIDE: wet (1, 0)");
        Rich.bounds("lay: wet", 0, 1, OUTSIDE, (w, n) -> w.lay(0, 1, n));
        Rich.bounds("lay: mud, wet", 0, 1, OUTSIDE, (w, n) -> w.lay(15, 6, n));
        Check.of(2, "wet is 0 of a bare one");
        Rich.bounds("lay: bare, wet", 0, 0, OUTSIDE, (w, n) -> w.lay(0, 0, n));
        Check.of(2, "a colour that is none, and wet");
        Rich.refused("lay(0, -1, 1)", w -> w.lay(0, -1, 1), OUTSIDE);
        Rich.refused("lay(0, 7, 1)", w -> w.lay(0, 7, 1), OUTSIDE);
        Check.of(2, "UNKNOWN is ahead of OUTSIDE");
        Rich.refused("lay(16, 7, 0)", w -> w.lay(16, 7, 0), UNKNOWN);
        Rich.refused("lay(-1, 0, 1)", w -> w.lay(-1, 0, 1), UNKNOWN);
        Rich.refused("lay(16, 1, 2)", w -> w.lay(16, 1, 2), UNKNOWN);
    }

    private static void promise3() {
        Check.of(3, "UNKNOWN: the CARD (0 to 7)");
        Rich.bounds("card: card", 0, 7, UNKNOWN, (w, n) -> w.card(n, 1));
        Check.of(3, "OUTSIDE: HOLES (0 to 65535)");
        Rich.bounds("card: holes", 0, 65535, OUTSIDE, (w, n) -> w.card(7, n));
        Rich.bounds("card: holes", 0, 65535, OUTSIDE, (w, n) -> w.card(0, n));
        Check.of(3, "UNKNOWN is ahead of OUTSIDE");
        Rich.refused("card(8, 65536)", w -> w.card(8, 65536), UNKNOWN);
        Rich.refused("card(-1, -1)", w -> w.card(-1, -1), UNKNOWN);
        Check.of(3, "none and all HOLES");
        StencilWall wall = new StencilWall();
        Check.due("card(7, 65535)", wall.card(7, 65535), 0);
        Check.due("card(7, 0)", wall.card(7, 0), 65535);
        Check.due("told(37)", wall.told(37), 0);
    }

    private static void promise4() {
        Check.of(4, "UNKNOWN: the COLOUR (1 to 5)");
        Rich.bounds("can: colour", 1, 5, UNKNOWN, (w, n) -> w.can(n, 1));
        Check.of(4, "OUTSIDE: DROPS (0 to 999)");
        Rich.bounds("can: drops", 0, 999, OUTSIDE, (w, n) -> w.can(1, n));
        Rich.bounds("can: drops", 0, 999, OUTSIDE, (w, n) -> w.can(5, n));
        Check.of(4, "UNKNOWN is ahead of OUTSIDE");
        Rich.refused("can(0, 1000)", w -> w.can(0, 1000), UNKNOWN);
        Rich.refused("can(6, -1)", w -> w.can(6, -1), UNKNOWN);
        Check.of(4, "no DROPS and 999");
        StencilWall wall = new StencilWall();
        Check.due("can(5, 999)", wall.can(5, 999), 50);
        Check.due("can(5, 0)", wall.can(5, 0), 999);
        Check.due("told(45)", wall.told(45), 0);
    }

    private static void promise5() {
        Check.of(5, "OUTSIDE: codes 33 to 126");
        Rich.bounds("say:", 33, 126, OUTSIDE, (w, n) -> w.say(n));
        Check.of(5, "FULL: 60 SIGNS");
        StencilWall wall = new StencilWall();
        Check.write(wall, SIXTY);
        Check.due("a 61st", wall.say('.'), FULL);
        Check.due("signs", wall.told(0), 60);
        Check.due("signs that go", wall.wipe(), 60);
        Check.due("the first again", wall.say('.'), 1);
        Rich.refused("a 61st", EdgesTest::fillPad, w -> w.say('.'), FULL);
        Rich.refused("a 61st", EdgesTest::fillPad, w -> w.say(126), FULL);
        Check.of(5, "OUTSIDE is ahead of FULL");
        for (int sign : new int[] {32, 127, Integer.MIN_VALUE, Integer.MAX_VALUE}) {
            Rich.refused("a 61st, " + sign, EdgesTest::fillPad, w -> w.say(sign), OUTSIDE);
        }
    }

    private static long fillPad(StencilWall wall) {
        Rich.say(wall, SIXTY);
        return wall.told(0);
    }

    private static void promise6And7() {
        Check.of(6, "how many there were: none, and 60");
        StencilWall wall = new StencilWall();
        Check.due("wipe()", wall.wipe(), 0);
        fillPad(wall);
        Check.due("wipe()", wall.wipe(), 60);
        Check.due("wipe()", wall.wipe(), 0);
        Check.of(6, "signs go: none of them comes back");
        wall.say('B');
        wall.wipe();
        wall.say('A');
        Check.due("fault()", wall.fault(), 1);
        Check.of(7, "an empty PAD has none");
        wall.wipe();
        Check.due("fault()", wall.fault(), NONE);
        Check.of(7, "a full PAD");
        dueFault(SIXTY, NONE);
        dueFault("A01".repeat(20), NONE);
        dueFault("a-".repeat(30), NONE);
        dueFault(".".repeat(59) + "A", 60);
        dueFault(".".repeat(58) + "A0", 60);
        dueFault(".".repeat(59) + "p", 60);
        dueFault(".".repeat(59) + "-", 59);
        dueFault("-" + ".".repeat(59), 0);
    }

    private static void dueFault(String text, int due) {
        StencilWall wall = new StencilWall();
        Check.write(wall, text);
        Check.due("fault of " + text, wall.fault(), due);
    }

    /** For each text with a fault the call is refused with NO. */
    private static void noForFaults(String name, Rich.Call call) {
        for (String text : FAULTS) {
            Rich.refused(name + " of " + text, w -> rewrite(w, text), call, NO);
        }
    }

    private static void noForStops(String name, Rich.Call call) {
        for (String text : STOPS) {
            Rich.refused(name + " of " + text, w -> rewrite(w, text), call, NO);
        }
    }

    private static long rewrite(StencilWall wall, String text) {
        wall.wipe();
        Rich.say(wall, text);
        return 0;
    }

    private static void promise8() {
        Check.of(8, "OUTSIDE: what (0, 1)");
        Rich.bounds("judge:", 0, 1, OUTSIDE, (w, n) -> w.judge(n));
        Check.of(8, "NO: there is a FAULT");
        noForFaults("judge(0)", w -> w.judge(0));
        noForFaults("judge(1)", w -> w.judge(1));
        Check.of(8, "OUTSIDE is ahead of NO");
        Rich.refused("judge(-1)", w -> rewrite(w, "A"), w -> w.judge(-1), OUTSIDE);
        Rich.refused("judge(2)", w -> rewrite(w, "A"), w -> w.judge(2), OUTSIDE);
        Check.of(8, "an ACT that can not be is no reason for NO");
        int[] why = {1, 2, 3, 4, 3, 2};
        int[] act = {0, 0, 0, 0, 1, 0};
        for (int i = 0; i < STOPS.length; i++) {
            StencilWall wall = Rich.wall();
            rewrite(wall, STOPS[i]);
            Check.due("judge(0) of " + STOPS[i], wall.judge(0), act[i]);
            Check.due("judge(1) of " + STOPS[i], wall.judge(1), why[i]);
        }
        Check.of(8, "NONE of an empty PAD");
        Check.due("judge(0)", new StencilWall().judge(0), NONE);
        Check.due("judge(1)", new StencilWall().judge(1), NONE);
    }

    private static void promise9() {
        Check.of(9, "NO: there is a FAULT");
        noForFaults("done()", w -> w.done());
        Check.of(9, "NO: an ACT that can not be");
        noForStops("done()", w -> w.done());
        Check.of(9, "no ACTS, and 60");
        StencilWall wall = new StencilWall();
        Check.due("done() of an empty pad", wall.done(), 0);
        fillPad(wall);
        Check.due("done() of a full pad", wall.done(), 60);
        Check.of(9, "the PAD is empty then");
        Check.due("told(0)", wall.told(0), 0);
        Check.due("fault()", wall.fault(), NONE);
        Check.due("done() once more", wall.done(), 0);
        Check.due("the hour", wall.told(2), 60);
    }

    private static void promise10() {
        Check.of(10, "UNKNOWN: the CELL (0 to 15)");
        Rich.bounds("behind: cell", 0, 15, UNKNOWN, (w, n) -> w.behind(n, 0));
        Rich.bounds("behind: cell", 0, 15, UNKNOWN, (w, n) -> w.behind(n, 1));
        Check.of(10, "OUTSIDE: what (0, 1)");
        Rich.bounds("behind: what", 0, 1, OUTSIDE, (w, n) -> w.behind(0, n));
        Rich.bounds("behind: what", 0, 1, OUTSIDE, (w, n) -> w.behind(15, n));
        Check.of(10, "NO, as of done(): a FAULT");
        noForFaults("behind(0, 0)", w -> w.behind(0, 0));
        noForFaults("behind(15, 1)", w -> w.behind(15, 1));
        Check.of(10, "NO, as of done(): an ACT that can not be");
        noForStops("behind(0, 0)", w -> w.behind(0, 0));
        noForStops("behind(15, 1)", w -> w.behind(15, 1));
        Check.of(10, "UNKNOWN is ahead of OUTSIDE, that of NO");
        for (String text : new String[] {"A", "D01", ""}) {
            Rich.refused("behind(16, 2)", w -> rewrite(w, text), w -> w.behind(16, 2), UNKNOWN);
            Rich.refused("behind(-1, 0)", w -> rewrite(w, text), w -> w.behind(-1, 0), UNKNOWN);
            Rich.refused("behind(0, 2)", w -> rewrite(w, text), w -> w.behind(0, 2), OUTSIDE);
            Rich.refused("behind(0, -1)", w -> rewrite(w, text), w -> w.behind(0, -1), OUTSIDE);
        }
    }

    private static void promise11() {
        Check.of(11, "UNKNOWN: 1 to 5");
        Rich.bounds("left:", 1, 5, UNKNOWN, (w, n) -> w.left(n));
        Check.of(11, "NO, likewise: a FAULT");
        noForFaults("left(1)", w -> w.left(1));
        noForFaults("left(5)", w -> w.left(5));
        Check.of(11, "NO, likewise: an ACT that can not be");
        noForStops("left(1)", w -> w.left(1));
        noForStops("left(5)", w -> w.left(5));
        Check.of(11, "UNKNOWN is ahead of NO");
        for (String text : new String[] {"A", "D01"}) {
            Rich.refused("left(0)", w -> rewrite(w, text), w -> w.left(0), UNKNOWN);
            Rich.refused("left(6)", w -> rewrite(w, text), w -> w.left(6), UNKNOWN);
        }
        Check.of(11, "none are left");
        StencilWall wall = Rich.wall();
        rewrite(wall, "A02");
        Check.due("left(2)", wall.left(2), 0);
        Check.due("left(3)", wall.left(3), 0);
        Check.due("left(1)", wall.left(1), 999);
    }

    private static void promise12() {
        Check.of(12, "OUTSIDE: what (0 to 6)");
        Rich.bounds("then:", 0, 6, OUTSIDE, (w, n) -> w.then(n));
        for (int what = 0; what <= 6; what++) {
            int each = what;
            Check.of(12, "NO, likewise: a FAULT");
            noForFaults("then(" + what + ")", w -> w.then(each));
            Check.of(12, "NO, likewise: an ACT that can not be");
            noForStops("then(" + what + ")", w -> w.then(each));
        }
        Check.of(12, "OUTSIDE is ahead of NO");
        for (String text : new String[] {"A", "D01"}) {
            Rich.refused("then(-1)", w -> rewrite(w, text), w -> w.then(-1), OUTSIDE);
            Rich.refused("then(7)", w -> rewrite(w, text), w -> w.then(7), OUTSIDE);
        }
    }

    private static void promise13() {
        Check.of(13, "UNKNOWN: the CARD (0 to 7)");
        Rich.bounds("turned: card", 0, 7, UNKNOWN, (w, n) -> w.turned(n, 0));
        Rich.bounds("turned: card", 0, 7, UNKNOWN, (w, n) -> w.turned(n, 7));
        Check.of(13, "OUTSIDE: quarters 0 to 3; 4 and 0 to 3");
        Rich.bounds("turned: quarters", 0, 7, OUTSIDE, (w, n) -> w.turned(0, n));
        Rich.bounds("turned: quarters", 0, 7, OUTSIDE, (w, n) -> w.turned(7, n));
        Check.of(13, "UNKNOWN is ahead of OUTSIDE");
        Rich.refused("turned(8, 8)", w -> w.turned(8, 8), UNKNOWN);
        Rich.refused("turned(-1, -1)", w -> w.turned(-1, -1), UNKNOWN);
        Check.of(13, "as it is now, not as the PAD would leave it");
        Check.due("turned(2, 0)", Rich.wall().turned(2, 0), 0x0123);
        Check.of(13, "turned over first, then by quarters");
        StencilWall wall = new StencilWall();
        wall.card(0, 1);
        int[] due = {1, 1 << 3, 1 << 15, 1 << 12, 1 << 3, 1 << 15, 1 << 12, 1};
        for (int quarters = 0; quarters < 8; quarters++) {
            Check.due("turned(0, " + quarters + ") of the cell a", wall.turned(0, quarters), due[quarters]);
        }
        Check.of(13, "no HOLES and all");
        for (int quarters = 0; quarters < 8; quarters++) {
            Check.due("turned(3, " + quarters + ")", Rich.wall().turned(3, quarters), 0);
            Check.due("turned(7, " + quarters + ")", Rich.wall().turned(7, quarters), 65535);
        }
    }

    private static void promise14And15() {
        Check.of(14, "OUTSIDE: what (0, 1)");
        Rich.bounds("patch:", 0, 1, OUTSIDE, (w, n) -> w.patch(n));
        Check.of(15, "OUTSIDE: what (0, 1)");
        Rich.bounds("box:", 0, 1, OUTSIDE, (w, n) -> w.box(n));
    }

    private static void promise16() {
        Check.of(16, "OUTSIDE: the set (1 to 65535)");
        Rich.bounds("cover: set", 1, 65535, OUTSIDE, (w, n) -> w.cover(n, 0));
        Rich.bounds("cover: set", 1, 65535, OUTSIDE, (w, n) -> w.cover(n, 1));
        Check.of(16, "OUTSIDE: what (0, 1)");
        Rich.bounds("cover: what", 0, 1, OUTSIDE, (w, n) -> w.cover(1, n));
        Rich.bounds("cover: what", 0, 1, OUTSIDE, (w, n) -> w.cover(65535, n));
        Check.of(16, "OUTSIDE, not NONE, where no CARDS have HOLES");
        StencilWall wall = new StencilWall();
        Check.due("cover(1, 2)", wall.cover(1, 2), OUTSIDE);
        Check.due("cover(0, 0)", wall.cover(0, 0), OUTSIDE);
        Check.due("cover(65536, 0)", wall.cover(65536, 0), OUTSIDE);
        Check.due("cover(1, 0)", wall.cover(1, 0), NONE);
    }

    private static void promise17() {
        Check.of(17, "what is on the PAD is no matter");
        StencilWall wall = Rich.wall();
        int pictures = wall.pictures();
        rewrite(wall, "A?");
        Check.due("pictures()", wall.pictures(), pictures);
        rewrite(wall, "A01");
        Check.due("pictures()", wall.pictures(), pictures);
    }

    private static void promise18() {
        Check.of(18, "OUTSIDE: what (0, 1)");
        Rich.bounds("made:", 0, 1, OUTSIDE, (w, n) -> w.made(n));
        Check.of(18, "OUTSIDE, not NONE, of a wall that no order makes");
        StencilWall wall = new StencilWall();
        wall.lay(0, 6, 0);
        Check.due("made(2)", wall.made(2), OUTSIDE);
        Check.due("made(-1)", wall.made(-1), OUTSIDE);
        Check.due("made(0)", wall.made(0), NONE);
        Check.due("made(1)", wall.made(1), NONE);
    }

    private static void promise19() {
        Check.of(19, "UNKNOWN: the CELL (0 to 15)");
        Rich.bounds("seen: cell", 0, 15, UNKNOWN, (w, n) -> w.seen(n, true));
        Rich.bounds("seen: cell", 0, 15, UNKNOWN, (w, n) -> w.seen(n, false));
        Check.of(19, "FULL: 8 SIGHTS");
        StencilWall wall = new StencilWall();
        for (int i = 1; i <= 8; i++) {
            Check.due("seen(15, false)", wall.seen(15, false), i);
        }
        Check.due("seen(15, false)", wall.seen(15, false), FULL);
        Check.due("sights", wall.told(3), 8);
        Rich.refused("a ninth", EdgesTest::fillSights, w -> w.seen(1, true), FULL);
        Rich.refused("a ninth", EdgesTest::fillSights, w -> w.seen(15, true), FULL);
        Rich.refused("a ninth", EdgesTest::fillSights, w -> w.seen(3, false), FULL);
        Check.of(19, "UNKNOWN is ahead of FULL");
        for (int cell : new int[] {-1, 16, Integer.MIN_VALUE, Integer.MAX_VALUE}) {
            Rich.refused("a ninth, of " + cell, EdgesTest::fillSights, w -> w.seen(cell, true), UNKNOWN);
        }
    }

    private static long fillSights(StencilWall wall) {
        for (int i = 0; i < 8; i++) {
            wall.seen(3, true);
        }
        return 0;
    }

    private static void promise20() {
        Check.of(20, "how many there were: none, and 8");
        StencilWall wall = new StencilWall();
        Check.due("forget()", wall.forget(), 0);
        fillSights(wall);
        Check.due("prints(-1)", wall.prints(-1), 0);
        Check.due("forget()", wall.forget(), 8);
        Check.due("forget()", wall.forget(), 0);
        Check.of(20, "SIGHTS go");
        Check.due("prints(-1)", wall.prints(-1), 32);
        Check.due("seen(0, false)", wall.seen(0, false), 1);
        Check.due("prints(-1)", wall.prints(-1), 32);
    }

    private static void promise21() {
        int[] none = {-2, -3, -6, -32, Integer.MIN_VALUE, Integer.MIN_VALUE + 1, Integer.MAX_VALUE - 1, Integer.MAX_VALUE};
        Check.of(21, "an i by which there is no PRINT answers NONE: 32 PRINTS");
        StencilWall all = new StencilWall();
        Check.due("prints(-1)", all.prints(-1), 32);
        Check.due("prints(0)", all.prints(0), 0);
        Check.due("prints(31)", all.prints(31), 73);
        Check.due("prints(32)", all.prints(32), NONE);
        Check.due("prints(33)", all.prints(33), NONE);
        Check.of(21, "an i by which there is no PRINT answers NONE: one PRINT");
        StencilWall one = new StencilWall();
        one.card(7, 1);
        one.seen(12, true);
        Check.due("prints(-1)", one.prints(-1), 1);
        Check.due("prints(0)", one.prints(0), 73);
        Check.due("prints(1)", one.prints(1), NONE);
        Check.of(21, "an i by which there is no PRINT answers NONE: nothing fits");
        StencilWall nothing = new StencilWall();
        nothing.seen(0, true);
        Check.due("prints(-1)", nothing.prints(-1), 0);
        Check.due("prints(0)", nothing.prints(0), NONE);
        Check.due("prints(1)", nothing.prints(1), NONE);
        for (int i : none) {
            Check.due("prints(" + i + ") of 32", all.prints(i), NONE);
            Check.due("prints(" + i + ") of one", one.prints(i), NONE);
            Check.due("prints(" + i + ") of none", nothing.prints(i), NONE);
        }
    }

    private static void promise22() {
        Check.of(22, "OUTSIDE: what (0, 1)");
        Rich.bounds("ask:", 0, 1, OUTSIDE, (w, n) -> w.ask(n));
        Check.of(22, "NONE: nothing fits");
        StencilWall wall = new StencilWall();
        wall.seen(0, true);
        Check.due("ask(0)", wall.ask(0), NONE);
        Check.due("ask(1)", wall.ask(1), NONE);
        Check.of(22, "OUTSIDE is ahead, where nothing fits");
        Check.due("ask(-1)", wall.ask(-1), OUTSIDE);
        Check.due("ask(2)", wall.ask(2), OUTSIDE);
    }

    private static void promise23() {
        Check.of(23, "OUTSIDE: cans 0 to 99999");
        Rich.bounds("steps: cans", 0, 99999, OUTSIDE, (w, n) -> w.steps(n, 0));
        Rich.bounds("steps: cans", 0, 99999, OUTSIDE, (w, n) -> w.steps(n, 1));
        Check.of(23, "OUTSIDE: what (0, 1)");
        Rich.bounds("steps: what", 0, 1, OUTSIDE, (w, n) -> w.steps(0, n));
        Rich.bounds("steps: what", 0, 1, OUTSIDE, (w, n) -> w.steps(99999, n));
    }

    private static void promise24() {
        for (int what = 0; what <= 1; what++) {
            for (int part = 0; part <= 1; part++) {
                int of = what;
                int by = part;
                Check.of(24, "OUTSIDE, with LOST: n (0 to 10)");
                Rich.bounds("fall: n", 0, 10, LOST_OUTSIDE, (w, n) -> w.fall(n, 1, of, by));
                Check.of(24, "OUTSIDE, with LOST: k (0 to 16)");
                Rich.bounds("fall: k", 0, 16, LOST_OUTSIDE, (w, n) -> w.fall(10, n, of, by));
                Rich.bounds("fall: k", 0, 16, LOST_OUTSIDE, (w, n) -> w.fall(0, n, of, by));
            }
        }
        Check.of(24, "OUTSIDE, with LOST: what (0, 1)");
        Rich.bounds("fall: what", 0, 1, LOST_OUTSIDE, (w, n) -> w.fall(10, 16, n, 0));
        Check.of(24, "OUTSIDE, with LOST: part (0, 1)");
        Rich.bounds("fall: part", 0, 1, LOST_OUTSIDE, (w, n) -> w.fall(10, 16, 0, n));
        Rich.bounds("fall: part", 0, 1, LOST_OUTSIDE, (w, n) -> w.fall(0, 0, 1, n));
    }

    private static void promise25() {
        for (int what = 0; what <= 2; what++) {
            int of = what;
            Check.of(25, "OUTSIDE: the seed (0 to 9999)");
            Rich.bounds("year: seed", 0, 9999, OUTSIDE, (w, n) -> w.year(n, 1, of));
            Rich.bounds("year: seed", 0, 9999, OUTSIDE, (w, n) -> w.year(n, 99, of));
            Check.of(25, "OUTSIDE: m (1 to 99)");
            Rich.bounds("year: m", 1, 99, OUTSIDE, (w, n) -> w.year(0, n, of));
            Rich.bounds("year: m", 1, 99, OUTSIDE, (w, n) -> w.year(9999, n, of));
        }
        Check.of(25, "OUTSIDE: what (0 to 2)");
        Rich.bounds("year: what", 0, 2, OUTSIDE, (w, n) -> w.year(0, 1, n));
        Rich.bounds("year: what", 0, 2, OUTSIDE, (w, n) -> w.year(9999, 99, n));
    }

    private static void promise26() {
        Check.of(26, "OUTSIDE: an IMAGE (0, 1)");
        Rich.bounds("image:", 0, 1, OUTSIDE, (w, n) -> w.image(n));
        Check.of(26, "a refused one keeps nothing");
        StencilWall wall = new StencilWall();
        wall.image(2);
        wall.image(-1);
        Check.due("restore(0)", wall.restore(0), STATE);
        Check.due("restore(1)", wall.restore(1), STATE);
    }

    private static void promise27() {
        Check.of(27, "OUTSIDE: an IMAGE (0, 1)");
        Rich.bounds("restore:", 0, 1, OUTSIDE, EdgesTest::keepSecondAndRestore);
        Check.of(27, "OUTSIDE is ahead of STATE");
        for (int n : new int[] {-1, 2, Integer.MIN_VALUE, Integer.MAX_VALUE}) {
            Check.due("restore(" + n + ") of a new object", new StencilWall().restore(n), OUTSIDE);
        }
        Check.of(27, "STATE: it was not kept");
        Check.due("restore(0) of a new object", new StencilWall().restore(0), STATE);
        Check.due("restore(1) of a new object", new StencilWall().restore(1), STATE);
        Rich.refused("restore(1), the first being kept", w -> w.restore(1), STATE);
        StencilWall wall = new StencilWall();
        wall.image(1);
        Check.due("restore(0), the second being kept", wall.restore(0), STATE);
        Check.due("restore(1), the second being kept", wall.restore(1), 1);
        Check.due("restore(0), the second being restored", wall.restore(0), STATE);
    }

    /** Kept only for the number that needs it, so that a refused call has changed nothing. */
    private static long keepSecondAndRestore(StencilWall wall, int n) {
        if (n == 1) {
            wall.image(1);
        }
        return wall.restore(n);
    }

    private static void promise28() {
        Check.of(28, "OUTSIDE: 0 to 3; 10 and a CELL; 30 and a CARD; 40 and a COLOUR 1 to 5");
        for (int what = -70; what <= 140; what++) {
            boolean asTold = what >= 0 && what <= 3 || what >= 10 && what <= 25 || what >= 30 && what <= 37
                || what >= 41 && what <= 45;
            long answer = Rich.wall().told(what);
            Check.that("told(" + what + ") answered " + answer, asTold ? answer >= 0 : answer == OUTSIDE);
        }
        int[] far = {Integer.MIN_VALUE, Integer.MIN_VALUE + 10, Integer.MIN_VALUE + 41, -65536, 65536 + 10,
            Integer.MAX_VALUE - 10, Integer.MAX_VALUE};
        for (int what : far) {
            Rich.refused("told(" + what + ")", w -> w.told(what), OUTSIDE);
        }
        Check.of(28, "the first and the last of each");
        StencilWall wall = Rich.wall();
        int[] whats = {0, 1, 2, 3, 10, 25, 30, 37, 41, 45};
        int[] due = {14, 0x8aa8, 2, 2, 1, 6, 15, 65535, 999, 17};
        for (int i = 0; i < whats.length; i++) {
            Check.due("told(" + whats[i] + ")", wall.told(whats[i]), due[i]);
        }
    }
}
