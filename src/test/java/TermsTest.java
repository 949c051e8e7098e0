import java.util.ArrayList;
import java.util.List;

/** Each sentence of the document's 'Terms' that names a boundary case, with the promise by which it is heard. */
public final class TermsTest {
    private static final int NONE = -6, OUTSIDE = -2, FULL = -4, NO = -5;
    private static final long POWER_10 = 1099511627776L;

    public static void main(String[] args) {
        firstThatFits();
        lowestTerms();
        lostAndTheRefusal();
        letters();
        turning();
        faultWhereMoreMustCome();
        signs();
        reasonNoHoles();
        reasonTooFewDrops();
        reasonSameHoles();
        reasonBareAlready();
        reasonHour99();
        firstActThatCanNotBe();
        wetAndMud();
        turnedOverFromNowOn();
        scraped();
        hours();
        doneAndBehind();
        everyCellBehind();
        noMud();
        firstMud();
        patchOfABareWall();
        patchLeastBits();
        patchSideBySide();
        boxOfABareWall();
        boxLeastBits();
        boxRows();
        coverOfNoCards();
        coverFewest();
        theBareWallAmongPictures();
        picturesOfFiveCards();
        madeOfTheBareWall();
        madeByNoOrder();
        madeFirstOrder();
        eightSights();
        sightsTwice();
        sightsThatWent();
        printsWhereNothingFits();
        askWhereNothingFits();
        askTheLeast();
        stepsWithNoughtsAhead();
        stepsWithNoCans();
        fallOfNoDrops();
        fallOfTenDrops();
        fallMean();
        yearOfScraping();
        yearOfOneAct();
        yearByQuartersAndColours();
        yearTurnedOver();
        yearOfHours();
        yearIsNotDone();
        imagesKeepAllButThePad();
        imagesAreTwo();
        imagesStayKept();
        the512thCall();
        Check.end();
    }

    private static StencilWall saying(StencilWall wall, String text) {
        Check.write(wall, text);
        return wall;
    }

    private static StencilWall wallOf(String cells) {
        StencilWall wall = new StencilWall();
        lay(wall, cells);
        return wall;
    }

    /** Sixteen figures, and blanks between rows. */
    private static void lay(StencilWall wall, String cells) {
        String figures = cells.replace(" ", "");
        for (int cell = 0; cell < 16; cell++) {
            wall.lay(cell, figures.charAt(cell) - '0', 0);
        }
    }

    private static StencilWall withCards(int... holes) {
        StencilWall wall = new StencilWall();
        for (int card = 0; card < holes.length; card++) {
            wall.card(card, holes[card]);
        }
        return wall;
    }

    private static StencilWall atHour(int hour) {
        StencilWall wall = new StencilWall();
        for (int left = hour; left > 0; left -= 60) {
            saying(wall, ".".repeat(Math.min(left, 60))).done();
        }
        Check.due("the hour", wall.told(2), hour);
        return wall;
    }

    // ---- refusals, fractions

    private static void firstThatFits() {
        Check.of(10, "the first of UNKNOWN, OUTSIDE, NO that fits");
        StencilWall wall = saying(new StencilWall(), "?");
        Check.due("behind(16, 2)", wall.behind(16, 2), -1);
        Check.due("behind(15, 2)", wall.behind(15, 2), -2);
        Check.due("behind(15, 1)", wall.behind(15, 1), -5);
        Check.of(27, "the first of OUTSIDE, STATE that fits");
        Check.due("restore(2)", wall.restore(2), -2);
        Check.due("restore(1)", wall.restore(1), -3);
        Check.of(5, "the first of OUTSIDE, FULL that fits");
        Check.write(wall, "?".repeat(60));
        Check.due("say(127)", wall.say(127), -2);
        Check.due("say(126)", wall.say(126), -4);
        Check.of(19, "the first of UNKNOWN, FULL that fits");
        for (int i = 0; i < 8; i++) {
            wall.seen(i, true);
        }
        Check.due("seen(16, true)", wall.seen(16, true), -1);
        Check.due("seen(15, true)", wall.seen(15, true), -4);
    }

    private static void lowestTerms() {
        Check.of(24, "fractions in lowest terms, the lower number 1 at least");
        for (int n = 0; n <= 10; n++) {
            StencilWall wall = new StencilWall();
            for (int k = 0; k <= 16; k++) {
                for (int what = 0; what <= 1; what++) {
                    long upper = wall.fall(n, k, what, 0);
                    long lower = wall.fall(n, k, what, 1);
                    String call = "fall(" + n + ", " + k + ", " + what + "): " + upper + " by " + lower;
                    Check.that(call, upper >= 0 && lower >= 1 && common(upper, lower) == 1);
                }
            }
        }
    }

    private static long common(long a, long b) {
        return b == 0 ? a : common(b, a % b);
    }

    private static void lostAndTheRefusal() {
        Check.of(24, "refused with LOST and the refusal");
        StencilWall wall = new StencilWall();
        Check.due("fall(11, 0, 0, 0)", wall.fall(11, 0, 0, 0), StencilWall.LOST + StencilWall.OUTSIDE);
        Check.due("fall(11, 0, 0, 1)", wall.fall(11, 0, 0, 1), -1000000000000000002L);
        Check.due("fall(0, 17, 1, 0)", wall.fall(0, 17, 1, 0), -1000000000000000002L);
        Check.due("fall(0, 0, 0, 2)", wall.fall(0, 0, 0, 2), -1000000000000000002L);
    }

    // ---- 1 cells, cards, the pad, acts

    private static void letters() {
        Check.of(7, "CELLS are a to p");
        for (char sign = 33; sign <= 126; sign++) {
            int due = sign >= 'a' && sign <= 'p' ? NONE : sign >= 'A' && sign <= 'H' ? 1 : sign == '.' ? 1 : 0;
            Check.due("fault of " + sign + "-", saying(new StencilWall(), sign + "-").fault(), due);
        }
        Check.of(7, "CARDS are A to H");
        for (char sign = 33; sign <= 126; sign++) {
            int due = sign >= 'A' && sign <= 'H' ? NONE : sign >= 'a' && sign <= 'p' ? 1 : sign == '.' ? 1 : 0;
            Check.due("fault of " + sign + "~", saying(new StencilWall(), sign + "~").fault(), due);
        }
        Check.of(7, "a digit 0 to 3");
        for (char sign = 33; sign <= 126; sign++) {
            int due = sign >= '0' && sign <= '3' ? NONE : sign == '~' ? 2 : 1;
            Check.due("fault of H" + sign + "1", saying(new StencilWall(), "H" + sign + "1").fault(), due);
        }
        Check.of(7, "a digit 1 to 5");
        for (char sign = 33; sign <= 126; sign++) {
            int due = sign >= '1' && sign <= '5' ? NONE : 2;
            Check.due("fault of A3" + sign, saying(new StencilWall(), "A3" + sign).fault(), due);
        }
        Check.of(9, "the letters a and p, A and H by number");
        StencilWall wall = wallOf("1000 0000 0000 0002");
        saying(wall, "p-").done();
        Check.due("told(10)", wall.told(10), 1);
        Check.due("told(25)", wall.told(25), 0);
        wall.card(0, 1);
        wall.card(7, 2);
        saying(wall, "H~").done();
        Check.due("told(30)", wall.told(30), 1);
        Check.due("told(37)", wall.told(37), 4);
    }

    /** Row 0 goes to place 3, row 3 to place 0; four quarters are none. */
    private static void turning() {
        Check.of(13, "the corners go round, and come back");
        int[] corners = {0, 3, 15, 12};
        for (int from = 0; from < 4; from++) {
            StencilWall wall = withCards(1 << corners[from]);
            for (int quarters = 0; quarters < 4; quarters++) {
                Check.due("turned(0, " + quarters + ")", wall.turned(0, quarters), 1 << corners[(from + quarters) % 4]);
            }
        }
        Check.of(13, "turned over, rows stay");
        for (int cell = 0; cell < 16; cell++) {
            Check.due("turned(0, 4)", withCards(1 << cell).turned(0, 4), 1 << (cell ^ 3));
        }
    }

    private static void faultWhereMoreMustCome() {
        Check.of(7, "the number of signs, if more must come");
        String[] texts = {"A", "H", "A0", "H3", "a", "p", ".A", "A01B", "A01B2", "A~p", "a-H1"};
        for (String text : texts) {
            Check.due("fault of " + text, saying(new StencilWall(), text).fault(), text.length());
        }
        Check.of(7, "the number of signs, if more must come, of a full PAD");
        for (String text : texts) {
            String full = ".".repeat(60 - text.length()) + text;
            StencilWall wall = saying(new StencilWall(), full);
            Check.due("fault of " + full, wall.fault(), 60);
            Check.due("a sign more", wall.say('1'), FULL);
        }
        Check.of(7, "a sign that can not stand there is ahead of signs that must come");
        Check.due("fault of A0?A", saying(new StencilWall(), "A0?A").fault(), 2);
        Check.of(8, "NO where more must come");
        Check.due("judge(0)", saying(new StencilWall(), "A0").judge(0), NO);
    }

    private static void signs() {
        Check.of(5, "codes 33 to 126, 60 SIGNS at most");
        StencilWall wall = new StencilWall();
        Check.due("say(32)", wall.say(32), OUTSIDE);
        for (int i = 1; i <= 60; i++) {
            Check.due("say", wall.say(i % 2 == 0 ? 33 : 126), i);
        }
        Check.due("a 61st", wall.say(33), FULL);
        Check.due("a 61st", wall.say(126), FULL);
        Check.due("a 61st", wall.say(127), OUTSIDE);
        Check.due("signs", wall.told(0), 60);
    }

    private static void dueReason(StencilWall wall, String text, int act, int why) {
        saying(wall, text);
        Check.due("judge(0) of " + text, wall.judge(0), act);
        Check.due("judge(1) of " + text, wall.judge(1), why);
    }

    private static void reasonNoHoles() {
        Check.of(8, "reason 1, the CARD has no HOLES");
        dueReason(new StencilWall(), "A01", 0, 1);
        dueReason(new StencilWall(), "H35", 0, 1);
        Check.of(8, "reason 1, not 2, is told where there are no DROPS either");
        StencilWall wall = withCards(0, 1);
        wall.can(1, 0);
        dueReason(wall, "A01", 0, 1);
        dueReason(wall, "B01", 0, 2);
        Check.of(8, "one HOLE is enough");
        dueReason(wall, "B02", NONE, NONE);
    }

    private static void reasonTooFewDrops() {
        Check.of(8, "reason 2, as many DROPS as HOLES, and one fewer");
        for (int count = 1; count <= 16; count++) {
            StencilWall wall = withCards((1 << count) - 1);
            for (int colour = 1; colour <= 5; colour++) {
                wall.can(colour, count);
                dueReason(wall, "A2" + colour, NONE, NONE);
                Check.due("left(" + colour + ")", wall.left(colour), 0);
                wall.can(colour, count - 1);
                dueReason(wall, "A2" + colour, 0, 2);
            }
        }
        Check.of(8, "reason 2, DROPS that an ACT before has SPRAYED");
        StencilWall wall = withCards(65535, 1);
        wall.can(3, 32);
        dueReason(wall, "A03A03", NONE, NONE);
        dueReason(wall, "A03A03B03", 2, 2);
        dueReason(wall, "A03A03B02", NONE, NONE);
        Check.of(11, "DROPS that are left of 999");
        wall.can(3, 999);
        saying(wall, "A03");
        Check.due("left(3)", wall.left(3), 983);
    }

    private static void reasonSameHoles() {
        Check.of(8, "reason 3, the same HOLES, turned over");
        for (int holes : new int[] {0, 65535, 0x0006, 0x0009, 0x9669, 0x000f}) {
            dueReason(withCards(holes), "A~", 0, 3);
        }
        Check.of(8, "no reason, other HOLES, turned over");
        for (int holes : new int[] {1, 0x1111, 0x8421, 0xfffe, 0x0008, 0x9668}) {
            dueReason(withCards(holes), "A~", NONE, NONE);
            dueReason(withCards(holes), "A~A~", NONE, NONE);
        }
    }

    private static void reasonBareAlready() {
        Check.of(8, "reason 4, it is bare already");
        for (int cell = 0; cell < 16; cell++) {
            String scrape = (char) ('a' + cell) + "-";
            dueReason(new StencilWall(), scrape, 0, 4);
            for (int colour = 1; colour <= 6; colour++) {
                StencilWall wall = new StencilWall();
                wall.lay(cell, colour, colour % 2);
                dueReason(wall, scrape, NONE, NONE);
                dueReason(wall, scrape + scrape, 1, 4);
            }
        }
    }

    private static void reasonHour99() {
        Check.of(8, "reason 5, it is hour 99");
        dueReason(atHour(98), ".", NONE, NONE);
        dueReason(atHour(98), "..", 1, 5);
        dueReason(atHour(99), ".", 0, 5);
        dueReason(atHour(40), ".".repeat(59), NONE, NONE);
        dueReason(atHour(40), ".".repeat(60), 59, 5);
        Check.of(9, "hour 99 can be, and no hour behind it");
        StencilWall wall = atHour(99);
        Check.due("done()", saying(wall, ".").done(), NO);
        Check.due("told(2)", wall.told(2), 99);
        Check.of(9, "at hour 99 other ACTS can be");
        wall.card(0, 1);
        Check.due("done()", saying(wall, "A01A~a-").done(), 3);
    }

    private static void firstActThatCanNotBe() {
        Check.of(8, "the first ACT, from 0 on, by ACTS and not by signs");
        StencilWall wall = withCards(1);
        dueReason(wall, "B01A01", 0, 1);
        dueReason(wall, "A01A~.B01", 3, 1);
        dueReason(wall, "a-B01", 0, 4);
        dueReason(wall, "A01a-a-B01", 2, 4);
        dueReason(wall, "B~a-B01", 0, 3);
        Check.of(8, "the last of 60");
        dueReason(wall, ".".repeat(58) + "a-", 58, 4);
        dueReason(wall, "A01".repeat(19) + "B01", 19, 1);
    }

    /** The cell a before, the text, the cell a behind. */
    private static void dueCell(int colour, int wet, String text, int dueColour, int dueWet) {
        StencilWall wall = withCards(1);
        wall.lay(0, colour, wet);
        saying(wall, text);
        Check.due("behind(0, 0) of " + colour + wet + text, wall.behind(0, 0), dueColour);
        Check.due("behind(0, 1) of " + colour + wet + text, wall.behind(0, 1), dueWet);
    }

    private static void wetAndMud() {
        for (int colour = 1; colour <= 5; colour++) {
            Check.of(10, "MUD, if it was WET and of another COLOUR");
            for (int was = 1; was <= 6; was++) {
                dueCell(was, 1, "A0" + colour, was == colour ? colour : 6, 1);
            }
            Check.of(10, "no MUD, if it was dry");
            for (int was = 0; was <= 6; was++) {
                dueCell(was, 0, "A0" + colour, colour, 1);
            }
            Check.of(10, "of the same COLOUR, twice");
            dueCell(0, 0, "A0" + colour + "A0" + colour, colour, 1);
        }
        Check.of(10, "MUD stays MUD while it is WET");
        dueCell(0, 0, "A01A02A01", 6, 1);
        dueCell(0, 0, "A01A02.A01", 1, 1);
        dueCell(0, 0, "A01A02.", 6, 0);
        dueCell(0, 0, "A01A02a-A03", 3, 1);
    }

    private static void turnedOverFromNowOn() {
        Check.of(10, "a CARD is turned over from now on");
        StencilWall wall = withCards(1);
        saying(wall, "A01A~A02A12");
        Check.due("behind(0, 0)", wall.behind(0, 0), 1);
        Check.due("behind(3, 0)", wall.behind(3, 0), 2);
        Check.due("behind(15, 0)", wall.behind(15, 0), 2);
        Check.due("not in fact", wall.told(30), 1);
        Check.of(9, "a CARD is turned over from now on");
        Check.due("done()", wall.done(), 4);
        Check.due("told(30)", wall.told(30), 8);
        saying(wall, "A~").done();
        Check.due("twice", wall.told(30), 1);
        saying(wall, "A~A~").done();
        Check.due("four times", wall.told(30), 1);
    }

    private static void scraped() {
        Check.of(10, "scraped: bare, dry");
        for (int colour = 1; colour <= 6; colour++) {
            dueCell(colour, 1, "a-", 0, 0);
            dueCell(colour, 0, "a-", 0, 0);
        }
        Check.of(12, "scraped: bare, dry");
        StencilWall wall = withCards(65535);
        saying(wall, "A01a-p-");
        Check.due("then(1)", wall.then(1), 2);
        Check.due("then(2)", wall.then(2), 65535 - 32769);
    }

    private static void hours() {
        Check.of(12, "an hour: all is dry");
        StencilWall wall = withCards(65535);
        saying(wall, "A01");
        Check.due("then(2)", wall.then(2), 65535);
        Check.due("then(3)", wall.then(3), 0);
        saying(wall, "A01.");
        Check.due("then(2)", wall.then(2), 0);
        Check.due("then(3)", wall.then(3), 1);
        saying(wall, ".A01");
        Check.due("then(2)", wall.then(2), 65535);
        Check.of(12, "the hour, 99");
        StencilWall late = atHour(39);
        saying(late, ".".repeat(60));
        Check.due("then(3)", late.then(3), 99);
    }

    // ---- 2 evenings

    private static void doneAndBehind() {
        Check.of(12, "BEHIND, not being DONE");
        StencilWall wall = withCards(65535);
        saying(wall, "A01.A02");
        int[] due = {0, 0, 65535, 1, 32, NONE, NONE};
        for (int what = 0; what <= 6; what++) {
            Check.due("then(" + what + ")", wall.then(what), due[what]);
            Check.due("then(" + what + ") again", wall.then(what), due[what]);
        }
        Check.due("told(0)", wall.told(0), 7);
        Check.due("told(1)", wall.told(1), 0);
        Check.due("told(2)", wall.told(2), 0);
        Check.due("told(10)", wall.told(10), 0);
        Check.due("told(41)", wall.told(41), 50);
        Check.of(9, "DONE: all is so then");
        Check.due("done()", wall.done(), 3);
        Check.due("told(0)", wall.told(0), 0);
        Check.due("told(1)", wall.told(1), 65535);
        Check.due("told(2)", wall.told(2), 1);
        Check.due("told(10)", wall.told(10), 2);
        Check.due("told(41)", wall.told(41), 34);
        Check.of(12, "DROPS that were SPRAYED in the text, not before it");
        Check.due("then(4)", wall.then(4), 0);
        Check.of(12, "DROPS: 999 of each, by all HOLES");
        for (int colour = 1; colour <= 5; colour++) {
            wall.can(colour, 999);
        }
        saying(wall, "A02".repeat(20));
        Check.due("then(4)", wall.then(4), 320);
        Check.due("left(2)", wall.left(2), 679);
    }

    private static void everyCellBehind() {
        for (int cell = 0; cell < 16; cell++) {
            Check.of(10, "of each CELL its COLOUR, whether it is WET");
            StencilWall wall = withCards(1 << cell);
            saying(wall, "A05");
            for (int other = 0; other < 16; other++) {
                Check.due("behind(" + other + ", 0)", wall.behind(other, 0), other == cell ? 5 : 0);
                Check.due("behind(" + other + ", 1)", wall.behind(other, 1), other == cell ? 1 : 0);
            }
        }
    }

    private static void dueMud(StencilWall wall, String text, int act, int cell) {
        saying(wall, text);
        Check.due("then(5) of " + text, wall.then(5), act);
        Check.due("then(6) of " + text, wall.then(6), cell);
    }

    private static void noMud() {
        Check.of(12, "NONE where nothing became MUD");
        dueMud(new StencilWall(), "", NONE, NONE);
        dueMud(withCards(65535), "A01", NONE, NONE);
        dueMud(withCards(65535), "A01A01.A02", NONE, NONE);
        StencilWall wall = wallOf("6666 6666 6666 6666");
        wall.card(0, 65535);
        Check.of(12, "NONE where it was MUD before");
        dueMud(wall, "", NONE, NONE);
        dueMud(wall, "A01", NONE, NONE);
        for (int cell = 0; cell < 16; cell++) {
            wall.lay(cell, 6, 1);
        }
        dueMud(wall, "A01A02A03", NONE, NONE);
        Check.due("then(0)", wall.then(0), 16);
    }

    private static void firstMud() {
        Check.of(12, "the first ACT by which a CELL became MUD: the ACT 0, the CELLS 0 and 15");
        for (int cell : new int[] {0, 15, 7}) {
            StencilWall wall = withCards(65535);
            wall.lay(cell, 5, 1);
            dueMud(wall, "A01", 0, cell);
            dueMud(wall, "..A01A02", 3, 0);
        }
        Check.of(12, "the least of more CELLS");
        StencilWall wall = withCards(65535, 0x8000, 0x0c00);
        dueMud(wall, "C01B01A02", 2, 10);
        dueMud(wall, "B01B02C01C02A03", 1, 15);
        Check.of(12, "the least CELL of the first ACT, not of a later one");
        dueMud(wall, "B01B02.A03A04", 1, 15);
        Check.of(12, "MUD that was scraped counts");
        dueMud(wall, "B01B02p-", 1, 15);
        Check.due("then(0)", wall.then(0), 0);
        Check.of(12, "that was none: of MUD that is WET, nothing becomes MUD");
        StencilWall muddy = withCards(0x0003);
        muddy.lay(0, 6, 1);
        muddy.lay(1, 2, 1);
        dueMud(muddy, "A01", 0, 1);
    }

    // ---- 3 patches, boxes, covers, pictures

    private static void dueShapes(String cells, int patch, int box) {
        StencilWall wall = wallOf(cells);
        Check.due("patch(0) of " + cells, wall.patch(0), Integer.bitCount(patch));
        Check.due("patch(1) of " + cells, wall.patch(1), patch);
        Check.due("box(0) of " + cells, wall.box(0), Integer.bitCount(box));
        Check.due("box(1) of " + cells, wall.box(1), box);
    }

    private static void patchOfABareWall() {
        Check.of(14, "0 and 0: all are bare");
        StencilWall wall = new StencilWall();
        Check.due("patch(0)", wall.patch(0), 0);
        Check.due("patch(1)", wall.patch(1), 0);
        Check.of(14, "0 and 0, bare again");
        wall.lay(5, 3, 1);
        wall.lay(5, 0, 0);
        Check.due("patch(0)", wall.patch(0), 0);
        Check.due("patch(1)", wall.patch(1), 0);
        Check.of(14, "one CELL, and all, of each COLOUR 1 to 6");
        for (int colour = 1; colour <= 6; colour++) {
            dueShapes(("" + colour).repeat(16), 65535, 65535);
            for (int cell = 0; cell < 16; cell++) {
                dueShapes("0".repeat(cell) + colour + "0".repeat(15 - cell), 1 << cell, 1 << cell);
            }
        }
    }

    private static void patchLeastBits() {
        Check.of(14, "of as many the least bits");
        dueShapes("1111 0000 0000 1111", 0x000f, 0x000f);
        dueShapes("0000 2200 0000 0011", 0x0030, 0x0030);
        dueShapes("0000 1100 0000 0022", 0x0030, 0x0030);
        dueShapes("1212 2121 1212 2121", 0x0001, 0x0001);
        Check.of(14, "of as many the least bits: the greatest CELL counts first");
        // 1 has a, e, i, m; 2 has b, c, d, h
        dueShapes("1222 1002 1000 1000", 0x008e, 0x1111);
        Check.of(14, "more CELLS are ahead of least bits");
        dueShapes("1110 0000 0000 2222", 0xf000, 0xf000);
    }

    private static void patchSideBySide() {
        Check.of(14, "side by side: not by corners");
        dueShapes("1000 0100 0010 0001", 0x0001, 0x0001);
        dueShapes("0001 0010 0100 1000", 0x0008, 0x0008);
        Check.of(14, "side by side: not round the end of a row");
        dueShapes("0001 1000 0001 1000", 0x0008, 0x0008);
        dueShapes("0011 1100 0000 0000", 0x000c, 0x000c);
        Check.of(14, "side by side: not round from the last row to the first");
        dueShapes("1000 0000 0000 1000", 0x0001, 0x0001);
        Check.of(14, "of one COLOUR: bare CELLS and other COLOURS part it");
        dueShapes("1101 0000 0000 0000", 0x0003, 0x0003);
        dueShapes("1121 0000 0000 0000", 0x0003, 0x0003);
        Check.of(14, "a patch that is found from its right");
        dueShapes("0100 1100 0000 0000", 0x0032, 0x0022);
        dueShapes("0010 0111 0000 0000", 0x00e4, 0x00e0);
        dueShapes("0001 1111 0000 0000", 0x00f8, 0x00f0);
        Check.of(14, "a patch that winds through all rows");
        dueShapes("1111 0001 1111 1000", 0x1f8f, 0x000f);
        dueShapes("1011 1010 1010 1110", 0x755d, 0x1111);
    }

    private static void boxOfABareWall() {
        Check.of(15, "0 and 0: all are bare");
        StencilWall wall = new StencilWall();
        Check.due("box(0)", wall.box(0), 0);
        Check.due("box(1)", wall.box(1), 0);
        Check.of(15, "0 and 0, bare again");
        wall.lay(15, 6, 1);
        wall.lay(15, 0, 0);
        Check.due("box(0)", wall.box(0), 0);
        Check.due("box(1)", wall.box(1), 0);
    }

    private static void boxLeastBits() {
        Check.of(15, "of as many the least bits");
        for (int rows = 1; rows <= 4; rows++) {
            for (int places = 1; places <= 4; places++) {
                dueTwoBoxes(rows, places);
            }
        }
        dueShapes("1222 1000 1000 1000", 0x1111, 0x1111);
        dueShapes("1222 1002 1000 0000", 0x008e, 0x000e);
    }

    /** A box in the last corner, and, if there is room, its like, of another colour, in the first. */
    private static void dueTwoBoxes(int rows, int places) {
        StencilWall wall = new StencilWall();
        int first = 0;
        int last = 0;
        for (int row = 0; row < rows; row++) {
            for (int place = 0; place < places; place++) {
                first |= 1 << 4 * row + place;
                last |= 1 << 15 - 4 * row - place;
            }
        }
        boolean both = (first & last) == 0;
        for (int cell = 0; cell < 16; cell++) {
            int colour = (last >> cell & 1) == 1 ? 1 : both && (first >> cell & 1) == 1 ? 2 : 0;
            wall.lay(cell, colour, 0);
        }
        String name = rows + " by " + places;
        Check.due("box(0), " + name, wall.box(0), rows * places);
        Check.due("box(1), " + name, wall.box(1), both ? first : last);
    }

    private static void boxRows() {
        Check.of(15, "all those from one row to another and one place to another: not round the end of a row");
        StencilWall wall = wallOf("0011 1100 0000 0000");
        Check.due("box(1)", wall.box(1), 0x000c);
        Check.of(15, "all of them: one that lacks, or is of another COLOUR, parts it");
        lay(wall, "1110 1010 1110 0000");
        Check.due("box(0)", wall.box(0), 3);
        Check.due("box(1)", wall.box(1), 0x0007);
        lay(wall, "1110 1210 1110 0000");
        Check.due("box(1)", wall.box(1), 0x0007);
        lay(wall, "1110 1110 1110 0000");
        Check.due("box(1)", wall.box(1), 0x0777);
    }

    private static void dueCover(StencilWall wall, int set, int count, int cards) {
        Check.due("cover(" + set + ", 0)", wall.cover(set, 0), count);
        Check.due("cover(" + set + ", 1)", wall.cover(set, 1), cards);
    }

    private static void coverOfNoCards() {
        Check.of(16, "NONE of a set that no CARDS have");
        dueCover(new StencilWall(), 1, NONE, NONE);
        dueCover(new StencilWall(), 65535, NONE, NONE);
        StencilWall wall = withCards(0x7fff, 1, 2, 4, 8, 16, 32, 64);
        dueCover(wall, 32768, NONE, NONE);
        dueCover(wall, 65535, NONE, NONE);
        dueCover(wall, 32767, 1, 1);
        Check.of(16, "CARDS as they are, not turned");
        dueCover(withCards(1), 8, NONE, NONE);
    }

    private static void coverFewest() {
        Check.of(16, "the fewest, all eight");
        dueCover(withCards(1, 2, 4, 8, 16, 32, 64, 65408), 65535, 8, 255);
        Check.of(16, "the fewest, not the least bits");
        dueCover(withCards(1, 2, 0, 0, 0, 0, 0, 3), 3, 1, 128);
        dueCover(withCards(1, 2, 4, 0, 0, 0, 3, 4), 7, 2, 68);
        Check.of(16, "least as bits of as few");
        dueCover(withCards(0, 3, 3, 3, 3, 3, 3, 3), 3, 1, 2);
        dueCover(withCards(1, 2, 1, 2, 1, 2, 1, 2), 3, 2, 3);
        dueCover(withCards(1, 4, 4, 2, 4, 4, 3, 4), 7, 2, 66);
        Check.of(16, "HOLES that two CARDS have");
        dueCover(withCards(3, 6), 7, 2, 3);
        dueCover(withCards(0x0fff, 0xfff0), 65535, 2, 3);
        Check.of(16, "more HOLES are no matter");
        dueCover(withCards(0, 0, 0, 0, 0, 0, 0, 65535), 1, 1, 128);
        dueCover(withCards(0, 0, 0, 0, 0, 0, 0, 65535), 65535, 1, 128);
    }

    private static void theBareWallAmongPictures() {
        Check.of(17, "the bare one too");
        Check.due("pictures() of no holes", new StencilWall().pictures(), 1);
        Check.due("pictures() of A", withCards(1).pictures(), 2);
        Check.due("pictures() of E", withCards(0, 0, 0, 0, 1).pictures(), 2);
        Check.due("pictures() of A, all holes", withCards(65535).pictures(), 2);
        Check.of(17, "on a bare wall, whatever it is now");
        StencilWall wall = wallOf("6666 1111 2222 3333");
        Check.due("pictures()", wall.pictures(), 1);
    }

    private static void picturesOfFiveCards() {
        Check.of(17, "CARDS 0 to 4 alone");
        Check.due("pictures() of F, G, H", withCards(0, 0, 0, 0, 0, 1, 2, 4).pictures(), 1);
        Check.of(17, "each once at the most, in any order: all walls alike, and all unlike");
        Check.due("pictures() of five alike", withCards(1, 1, 1, 1, 1).pictures(), 6);
        Check.due("pictures() of five apart", withCards(1, 2, 4, 8, 16).pictures(), 32);
        Check.due("pictures() of five that meet", fiveThatMeet().pictures(), 326);
        Check.of(17, "an hour between any two: no MUD");
        Check.due("pictures() of two that meet", withCards(3, 6).pictures(), 5);
        Check.of(17, "DROPS are of no matter");
        StencilWall wall = fiveThatMeet();
        for (int colour = 1; colour <= 5; colour++) {
            wall.can(colour, 0);
        }
        Check.due("pictures()", wall.pictures(), 326);
        Check.of(17, "hours are of no matter");
        Check.due("pictures() at hour 99", atHour(99).pictures(), 1);
    }

    /** A cell of its own for each of the five cards, and one for each two: every order leaves another wall. */
    private static StencilWall fiveThatMeet() {
        int[] holes = new int[5];
        int cell = 5;
        for (int one = 0; one < 5; one++) {
            holes[one] |= 1 << one;
            for (int other = one + 1; other < 5; other++) {
                holes[one] |= 1 << cell;
                holes[other] |= 1 << cell;
                cell++;
            }
        }
        return withCards(holes);
    }

    private static void dueMade(StencilWall wall, String cells, int count, int order) {
        lay(wall, cells);
        Check.due("made(0) of " + cells, wall.made(0), count);
        Check.due("made(1) of " + cells, wall.made(1), order);
    }

    private static void madeOfTheBareWall() {
        Check.of(18, "MADE of the bare wall: by no CARDS, a 1 alone");
        dueMade(new StencilWall(), "0000 0000 0000 0000", 0, 1);
        dueMade(fiveThatMeet(), "0000 0000 0000 0000", 0, 1);
    }

    private static void madeByNoOrder() {
        Check.of(18, "NONE of a wall that no order makes");
        dueMade(new StencilWall(), "1000 0000 0000 0000", NONE, NONE);
        StencilWall wall = withCards(1, 2, 4, 8, 16, 32, 64, 128);
        dueMade(wall, "2000 0000 0000 0000", NONE, NONE);
        dueMade(wall, "1100 0000 0000 0000", NONE, NONE);
        dueMade(wall, "6000 0000 0000 0000", NONE, NONE);
        dueMade(wall, "0000 0600 0000 0000", NONE, NONE);
        dueMade(wall, "0000 0100 0000 0000", NONE, NONE);
        dueMade(wall, "1234 5000 0000 0001", NONE, NONE);
        dueMade(withCards(3), "1000 0000 0000 0000", NONE, NONE);
        Check.of(18, "a wall that an order makes, but for one CELL");
        dueMade(wall, "1234 5000 0000 0000", 5, 101234);
    }

    private static void madeFirstOrder() {
        Check.of(18, "the first order of as few");
        StencilWall apart = withCards(1, 2, 4, 8, 16);
        dueMade(apart, "0034 5000 0000 0000", 3, 1234);
        dueMade(apart, "1000 5000 0000 0000", 2, 104);
        Check.of(18, "an order that falls");
        dueMade(withCards(1, 3, 7, 15, 31), "1234 5000 0000 0000", 5, 143210);
        Check.of(18, "the fewest: CARDS that are covered are left out");
        dueMade(withCards(1, 3, 7, 15, 31), "5555 5000 0000 0000", 1, 14);
        dueMade(withCards(31, 15, 7, 3, 1), "5432 1000 0000 0000", 5, 101234);
        Check.of(18, "by COLOURS alone: WET ones too");
        StencilWall wet = withCards(1);
        wet.lay(0, 1, 1);
        Check.due("made(1)", wet.made(1), 10);
        Check.of(18, "DROPS are of no matter");
        wet.can(1, 0);
        Check.due("made(1)", wet.made(1), 10);
        Check.of(18, "every order of the five");
        everyOrder("");
    }

    private static void everyOrder(String order) {
        StencilWall wall = fiveThatMeet();
        int[] colours = new int[16];
        for (int i = 0; i < order.length(); i++) {
            int card = order.charAt(i) - '0';
            for (int cell = 0; cell < 16; cell++) {
                colours[cell] = (wall.told(30 + card) >> cell & 1) == 1 ? card + 1 : colours[cell];
            }
        }
        for (int cell = 0; cell < 16; cell++) {
            wall.lay(cell, colours[cell], 0);
        }
        Check.due("made(0) of " + order, wall.made(0), order.length());
        Check.due("made(1) of " + order, wall.made(1), Integer.parseInt("1" + order));
        for (char card = '0'; card <= '4'; card++) {
            if (order.indexOf(card) < 0) {
                everyOrder(order + card);
            }
        }
    }

    // ---- 4 prints, steps, drops, years

    private static void eightSights() {
        Check.of(19, "SIGHTS, 8 at most");
        StencilWall wall = new StencilWall();
        for (int i = 1; i <= 8; i++) {
            Check.due("seen", wall.seen(16 - i, false), i);
            Check.due("told(3)", wall.told(3), i);
        }
        Check.due("a ninth", wall.seen(0, true), FULL);
        Check.due("told(3)", wall.told(3), 8);
        Check.due("the ninth is none", wall.prints(-1), 32);
        Check.of(19, "all SIGHTS count, the first and the eighth");
        for (int at = 0; at < 8; at++) {
            StencilWall each = withCards(1);
            for (int i = 0; i < 8; i++) {
                each.seen(i == at ? 15 : 1, i == at);
            }
            Check.due("prints(-1)", each.prints(-1), 1);
            Check.due("prints(0)", each.prints(0), 2);
        }
    }

    private static void sightsTwice() {
        Check.of(19, "the same SIGHT twice is two, and is so still");
        StencilWall wall = withCards(1);
        Check.due("seen(0, true)", wall.seen(0, true), 1);
        Check.due("seen(0, true)", wall.seen(0, true), 2);
        Check.due("prints(-1)", wall.prints(-1), 1);
        wall.forget();
        Check.due("seen(0, false)", wall.seen(0, false), 1);
        Check.due("seen(0, false)", wall.seen(0, false), 2);
        Check.due("prints(-1)", wall.prints(-1), 31);
    }

    private static void sightsThatWent() {
        for (int cell = 0; cell < 16; cell++) {
            Check.of(20, "SIGHTS go, of HOLES and of none");
            StencilWall wall = withCards(65535);
            wall.seen(cell, false);
            Check.due("prints(-1)", wall.prints(-1), 28);
            wall.forget();
            Check.due("prints(-1)", wall.prints(-1), 32);
            wall.seen(cell, true);
            Check.due("prints(-1)", wall.prints(-1), 4);
            wall.forget();
            Check.due("prints(-1)", wall.prints(-1), 32);
        }
    }

    private static void printsWhereNothingFits() {
        Check.of(21, "PRINTS where nothing fits");
        StencilWall wall = new StencilWall();
        wall.seen(15, true);
        Check.due("prints(-1)", wall.prints(-1), 0);
        Check.due("prints(0)", wall.prints(0), NONE);
        Check.of(21, "a CELL that is under a HOLE, and is not");
        StencilWall all = withCards(65535, 65535, 65535, 65535, 65535, 65535, 65535, 65535);
        all.seen(7, true);
        Check.due("prints(-1)", all.prints(-1), 32);
        all.seen(7, false);
        Check.due("prints(-1)", all.prints(-1), 0);
        Check.due("prints(0)", all.prints(0), NONE);
        Check.of(21, "the i-th, rising: the first and the last");
        StencilWall some = withCards(0, 1, 0, 0, 0, 0, 0, 0x8000);
        some.seen(3, true);
        Check.due("prints(-1)", some.prints(-1), 2);
        Check.due("prints(0)", some.prints(0), 11);
        Check.due("prints(1)", some.prints(1), 73);
        Check.due("prints(2)", some.prints(2), NONE);
    }

    private static void askWhereNothingFits() {
        Check.of(22, "NONE: nothing fits");
        StencilWall wall = new StencilWall();
        Check.due("ask(0), all fit", wall.ask(0), 0);
        Check.due("ask(1), all fit", wall.ask(1), 32);
        wall.seen(0, true);
        Check.due("ask(0)", wall.ask(0), NONE);
        Check.due("ask(1)", wall.ask(1), NONE);
        Check.of(22, "one PRINT is left");
        StencilWall one = withCards(0x8000);
        one.seen(0, true);
        Check.due("prints(0)", one.prints(0), 2);
        Check.due("ask(0)", one.ask(0), 0);
        Check.due("ask(1)", one.ask(1), 1);
    }

    private static void askTheLeast() {
        Check.of(22, "the least CELL of as few");
        StencilWall wall = withCards(65535, 65535, 65535, 65535);
        Check.due("ask(0)", wall.ask(0), 0);
        Check.due("ask(1)", wall.ask(1), 16);
        Check.of(22, "each CELL");
        for (int cell = 0; cell < 16; cell++) {
            dueAskEach(cell);
        }
        Check.of(22, "the last CELL");
        StencilWall last = withCards(0, 0, 0, 0, 0, 0, 0, 0x8000);
        last.seen(0, false);
        last.seen(3, false);
        last.seen(12, false);
        // 29 prints are left, one of which has the cell p
        Check.due("prints(-1)", last.prints(-1), 29);
        Check.due("ask(0)", last.ask(0), 15);
        Check.due("ask(1)", last.ask(1), 28);
        Check.of(22, "whether or not: few that have it are as good as few that have not");
        StencilWall few = withCards(65535, 65535, 65535, 65535, 65535, 65535, 65535, 65534);
        Check.due("ask(0)", few.ask(0), 0);
        Check.due("ask(1)", few.ask(1), 31);
    }

    /** Of the print that has the cell, and others without a hole; its other quarters were seen not to be. */
    private static void dueAskEach(int cell) {
        StencilWall wall = withCards(1 << cell);
        for (int quarters = 1; quarters <= 3; quarters++) {
            wall.seen(Integer.numberOfTrailingZeros(wall.turned(0, quarters)), false);
        }
        Check.due("prints(-1)", wall.prints(-1), 29);
        Check.due("ask(0)", wall.ask(0), cell);
        Check.due("ask(1)", wall.ask(1), 28);
    }

    private static void dueSteps(int cans, int whether, int what) {
        StencilWall wall = new StencilWall();
        Check.due("steps(" + cans + ", 0)", wall.steps(cans, 0), whether);
        Check.due("steps(" + cans + ", 1)", wall.steps(cans, 1), what);
    }

    private static void stepsWithNoughtsAhead() {
        Check.of(23, "noughts ahead vanish: the last digit is step 5");
        for (int count = 1; count <= 9; count++) {
            dueSteps(count, 1, 50 + count);
            dueSteps(10 * count, 0, NONE);
            dueSteps(100 * count, 1, 30 + count);
            dueSteps(1000 * count, 0, NONE);
            dueSteps(10000 * count, 1, 10 + count);
        }
        Check.of(23, "0 to 9 on each");
        dueSteps(99999, 1, 19);
        dueSteps(9090, 0, NONE);
        dueSteps(90909, 1, 19);
        dueSteps(90900, 0, NONE);
        dueSteps(909, 0, NONE);
        dueSteps(90009, 0, NONE);
        Check.of(23, "the least: the least step, then the fewest");
        dueSteps(12300, 1, 22);
        dueSteps(10100, 0, NONE);
        dueSteps(30100, 1, 12);
    }

    private static void stepsWithNoCans() {
        Check.of(23, "no cans: who can not has lost");
        dueSteps(0, 0, NONE);
    }

    private static void dueFall(int n, int k, int what, long upper, long lower) {
        StencilWall wall = new StencilWall();
        Check.due("fall(" + n + ", " + k + ", " + what + ", 0)", wall.fall(n, k, what, 0), upper);
        Check.due("fall(" + n + ", " + k + ", " + what + ", 1)", wall.fall(n, k, what, 1), lower);
    }

    private static void fallOfNoDrops() {
        Check.of(24, "FALL of 0 drops");
        dueFall(0, 0, 0, 1, 1);
        for (int k = 1; k <= 16; k++) {
            dueFall(0, k, 0, 0, 1);
        }
        for (int k = 0; k <= 16; k++) {
            dueFall(0, k, 1, 0, 1);
        }
        Check.of(24, "FALL with k 0: only no drops hit no CELL");
        for (int n = 1; n <= 10; n++) {
            dueFall(n, 0, 0, 0, 1);
        }
        Check.of(24, "FALL with k 16: ten drops are too few");
        for (int n = 0; n <= 10; n++) {
            dueFall(n, 16, 0, 0, 1);
        }
    }

    private static void fallOfTenDrops() {
        Check.of(24, "FALL of 10 drops");
        // into how many unlike heaps ten drops part, by how many heaps
        long[] heaps = {0, 1, 511, 9330, 34105, 42525, 22827, 5880, 750, 45, 1};
        long cells = 1;
        for (int k = 1; k <= 10; k++) {
            cells *= 17 - k;
            long ways = heaps[k] * cells;
            long common = common(ways, POWER_10);
            dueFall(10, k, 0, ways / common, POWER_10 / common);
        }
        for (int k = 11; k <= 16; k++) {
            dueFall(10, k, 0, 0, 1);
        }
        Check.of(24, "FALL of 1 drop");
        dueFall(1, 1, 0, 1, 1);
        dueFall(1, 2, 0, 0, 1);
    }

    private static void fallMean() {
        Check.of(24, "the mean: k is no matter, but as told");
        for (int k = 0; k <= 16; k++) {
            dueFall(10, k, 1, 522861237151L, 68719476736L);
            dueFall(1, k, 1, 1, 1);
            dueFall(2, k, 1, 31, 16);
        }
        StencilWall wall = new StencilWall();
        Check.due("fall(2, -1, 1, 0)", wall.fall(2, -1, 1, 0), -1000000000000000002L);
        Check.due("fall(2, 17, 1, 0)", wall.fall(2, 17, 1, 0), -1000000000000000002L);
    }

    /** The draws of a year, each as its kind and its y. */
    private static List<int[]> draws(int seed, int m) {
        List<int[]> draws = new ArrayList<>();
        long x = seed;
        for (int i = 0; i < m; i++) {
            x = (75 * x + 74) % 65537;
            draws.add(new int[] {(int) (x % 8), (int) (x / 8)});
        }
        return draws;
    }

    /** No card has holes: so only scraping tells, and each act from the first to the 99th may tell. */
    private static void yearOfScraping() {
        Check.of(25, "A YEAR of 1 to 99 ACTS, with the seeds 0 and 9999");
        for (int seed : new int[] {0, 1, 9998, 9999}) {
            for (int m = 1; m <= 99; m++) {
                boolean[] scraped = new boolean[16];
                int bare = 0;
                for (int[] draw : draws(seed, m)) {
                    if (draw[0] == 6 && !scraped[draw[1] % 16]) {
                        scraped[draw[1] % 16] = true;
                        bare++;
                    }
                }
                StencilWall wall = wallOf("6666 6666 6666 6666");
                Check.due("year(" + seed + ", " + m + ", 0)", wall.year(seed, m, 0), 16 - bare);
                Check.due("year(" + seed + ", " + m + ", 1)", wall.year(seed, m, 1), bare);
                Check.due("year(" + seed + ", " + m + ", 2)", wall.year(seed, m, 2), 0);
            }
        }
        everyLastAct();
    }

    /** A hole in each card: the drops sprayed count the sprayings, and m of them is the last. */
    private static void everyLastAct() {
        Check.of(25, "A YEAR of m ACTS: the m-th is played, the one behind it is not");
        for (int seed : new int[] {0, 9999}) {
            for (int m : new int[] {1, 2, 50, 98, 99}) {
                StencilWall wall = withCards(64, 64, 64, 64, 64, 64, 64, 64);
                int sprayed = 0;
                for (int[] draw : draws(seed, m)) {
                    sprayed += draw[0] <= 4 ? 1 : 0;
                }
                for (int colour = 1; colour <= 5; colour++) {
                    wall.can(colour, 999);
                }
                Check.due("year(" + seed + ", " + m + ", 2)", wall.year(seed, m, 2), sprayed);
            }
        }
    }

    /** Every seed, by one act: what its draw says is done to a wall of mud, or to the bare one. */
    private static void yearOfOneAct() {
        Check.of(25, "A YEAR of 1 ACT, by each kind of draw");
        StencilWall bare = withCards(1, 3, 7, 15, 31, 63, 127, 255);
        StencilWall mud = withCards(1, 3, 7, 15, 31, 63, 127, 255);
        lay(mud, "6666 6666 6666 6666");
        for (int seed = 0; seed <= 9999; seed++) {
            if (seed % 80 == 0) {
                bare = withCards(1, 3, 7, 15, 31, 63, 127, 255);
                mud = withCards(1, 3, 7, 15, 31, 63, 127, 255);
                lay(mud, "6666 6666 6666 6666");
            }
            int[] draw = draws(seed, 1).get(0);
            int sprayed = draw[0] <= 4 ? draw[1] % 8 + 1 : 0;
            Check.due("bare: year(" + seed + ", 1, 1)", bare.year(seed, 1, 1), 16 - sprayed);
            Check.due("bare: year(" + seed + ", 1, 2)", bare.year(seed, 1, 2), sprayed);
            Check.due("mud: year(" + seed + ", 1, 0)", mud.year(seed, 1, 0), 16 - sprayed - (draw[0] == 6 ? 1 : 0));
            Check.due("mud: year(" + seed + ", 1, 1)", mud.year(seed, 1, 1), draw[0] == 6 ? 1 : 0);
        }
    }

    /** One corner is wet: there is mud just if the card, by its quarters, has its hole there, and the colour is another. */
    private static void yearByQuartersAndColours() {
        Check.of(25, "turned by y by 8 (cut) left over by 4, with COLOUR 1 and y by 32 (cut) left over by 5");
        int[] corners = {0, 3, 15, 12};
        for (int seed = 0; seed <= 9999; seed++) {
            int[] draw = draws(seed, 1).get(0);
            if (draw[0] > 4) {
                continue;
            }
            int quarters = draw[1] / 8 % 4;
            int colour = 1 + draw[1] / 32 % 5;
            StencilWall wall = withCards(1, 1, 1, 1, 1, 1, 1, 1);
            wall.lay(corners[quarters], colour, 1);
            Check.due("of its colour: year(" + seed + ", 1, 0)", wall.year(seed, 1, 0), 0);
            Check.due("of its colour: year(" + seed + ", 1, 1)", wall.year(seed, 1, 1), 15);
            wall.lay(corners[quarters], colour % 5 + 1, 1);
            Check.due("of another: year(" + seed + ", 1, 0)", wall.year(seed, 1, 0), 1);
            Check.due("of another: year(" + seed + ", 1, 1)", wall.year(seed, 1, 1), 15);
        }
    }

    /** The first draw turns a card over, the second sprays the same one. */
    private static void yearTurnedOver() {
        Check.of(25, "5 it is turned over, if that can be");
        for (int seed = 0; seed <= 9999; seed++) {
            int[] first = draws(seed, 2).get(0);
            int[] second = draws(seed, 2).get(1);
            if (first[0] != 5 || second[0] > 4 || first[1] % 8 != second[1] % 8) {
                continue;
            }
            int card = first[1] % 8;
            StencilWall wall = new StencilWall();
            wall.card(card, 0x0100);
            int over = wall.turned(card, 4 + second[1] / 8 % 4);
            wall.lay(Integer.numberOfTrailingZeros(over), 6, 1);
            Check.due("year(" + seed + ", 2, 1)", wall.year(seed, 2, 1), 15);
            Check.due("year(" + seed + ", 2, 2)", wall.year(seed, 2, 2), 1);
            wall.card(card, 0x0900);
            Check.due("with the same holes: year(" + seed + ", 2, 2)", wall.year(seed, 2, 2), 2);
            Check.due("it is not in fact", wall.told(30 + card), 0x0900);
        }
    }

    /** The hour counts from what it is: a year that waits at hour 98 and sprays dries the wall, at hour 99 not. */
    private static void yearOfHours() {
        Check.of(25, "from all as it is, hour 99 too");
        int seed = 0;
        while (draws(seed, 2).get(0)[0] != 7 || draws(seed, 2).get(1)[0] > 4) {
            seed++;
        }
        int colour = 1 + draws(seed, 2).get(1)[1] / 32 % 5;
        for (int hour = 97; hour <= 99; hour++) {
            StencilWall wall = atHour(hour);
            for (int card = 0; card < 8; card++) {
                wall.card(card, 65535);
            }
            for (int cell = 0; cell < 16; cell++) {
                wall.lay(cell, colour % 5 + 1, 1);
            }
            Check.due("at hour " + hour + ", year(" + seed + ", 2, 0)", wall.year(seed, 2, 0), hour == 99 ? 16 : 0);
            Check.due("the hour", wall.told(2), hour);
        }
    }

    private static void yearIsNotDone() {
        Check.of(25, "nothing is DONE in fact");
        for (int seed : new int[] {0, 9999}) {
            StencilWall wall = Rich.wall();
            wall.year(seed, 99, 0);
            wall.year(seed, 1, 2);
            Check.that("year(" + seed + ", ..)", Rich.whole(wall).equals(Rich.whole(Rich.wall())));
        }
        Check.of(25, "a FAULT on the PAD is no matter");
        StencilWall wall = saying(withCards(1, 1), "?");
        Check.due("year(0, 1, 2)", wall.year(0, 1, 2), 1);
    }

    /** Every part of the state is another one than when it was kept. */
    private static void changeAll(StencilWall wall) {
        wall.wipe();
        Rich.say(wall, "..");
        wall.done();
        for (int cell = 0; cell < 16; cell++) {
            wall.lay(cell, (wall.told(10 + cell) + 1) % 6 + 1, (wall.told(1) >> cell & 1) ^ 1);
        }
        for (int card = 0; card < 8; card++) {
            wall.card(card, wall.told(30 + card) ^ 1);
        }
        for (int colour = 1; colour <= 5; colour++) {
            wall.can(colour, 999 - wall.told(40 + colour));
        }
        wall.forget();
        wall.seen(2, true);
    }

    private static String state(StencilWall wall) {
        wall.wipe();
        return Check.fingerprint(wall);
    }

    private static void imagesKeepAllButThePad() {
        for (int n = 0; n <= 1; n++) {
            Check.of(26, "all but the PAD is kept");
            StencilWall wall = Rich.wall();
            Check.due("image(" + n + ")", wall.image(n), 1);
            Check.due("signs stay", wall.told(0), 14);
            String kept = state(wall);
            changeAll(wall);
            Check.that("all is changed", !state(wall).equals(kept));
            Check.of(27, "it is as it was when it was kept, but the PAD");
            wall.say('A');
            Check.due("restore(" + n + ")", wall.restore(n), 1);
            Check.due("signs", wall.told(0), 1);
            Check.due("fault()", wall.fault(), 1);
            Check.that("restore(" + n + ")", state(wall).equals(kept));
        }
    }

    private static void imagesAreTwo() {
        Check.of(27, "each of the two as it was");
        for (int n = 0; n <= 1; n++) {
            StencilWall wall = new StencilWall();
            wall.lay(7, 1, 1);
            wall.image(n);
            wall.lay(7, 2, 0);
            wall.image(1 - n);
            wall.lay(7, 3, 1);
            Check.due("restore(" + n + ")", wall.restore(n), 1);
            Check.due("told(17)", wall.told(17), 1);
            Check.due("told(1)", wall.told(1), 128);
            Check.due("restore(" + (1 - n) + ")", wall.restore(1 - n), 1);
            Check.due("told(17)", wall.told(17), 2);
            Check.due("told(1)", wall.told(1), 0);
        }
    }

    private static void imagesStayKept() {
        for (int n = 0; n <= 1; n++) {
            Check.of(27, "an IMAGE stays kept, whatever is done to what was restored");
            StencilWall wall = new StencilWall();
            wall.image(n);
            for (int i = 0; i < 2; i++) {
                wall.card(7, 9);
                wall.can(5, 9);
                wall.seen(9, true);
                Check.due("restore(" + n + ")", wall.restore(n), 1);
                Check.due("told(37)", wall.told(37), 0);
                Check.due("told(45)", wall.told(45), 50);
                Check.due("told(3)", wall.told(3), 0);
            }
            Check.of(26, "kept once more, it is the later one");
            wall.card(7, 9);
            Check.due("image(" + n + ")", wall.image(n), 1);
            wall.card(7, 8);
            wall.restore(n);
            Check.due("told(37)", wall.told(37), 9);
        }
    }

    /** The 512th call is as good as the first. */
    private static void the512thCall() {
        Check.of(28, "an object is used for 512 calls");
        StencilWall wall = new StencilWall();
        for (int call = 1; call < 512; call++) {
            Check.due("lay, call " + call, wall.lay(15, call % 7, 0), (call - 1) % 7);
        }
        Check.due("told(25), call 512", wall.told(25), 511 % 7);
    }
}
