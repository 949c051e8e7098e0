/** Promises 14 to 18: patch, box, cover, pictures, made. */
public final class ShapesTest {
    private static final int NONE = -6, OUTSIDE = -2;
    private static final int[] FAR = {Integer.MIN_VALUE, -1, 2, 1000000, Integer.MAX_VALUE};

    public static void main(String[] args) {
        patch();
        box();
        cover();
        pictures();
        made();
        Check.end();
    }

    /** A wall by its rows, dry. */
    private static StencilWall wallOf(String... rows) {
        StencilWall wall = new StencilWall();
        paint(wall, rows);
        return wall;
    }

    private static void paint(StencilWall wall, String... rows) {
        for (int cell = 0; cell < 16; cell++) {
            wall.lay(cell, rows[cell / 4].charAt(cell % 4) - '0', 0);
        }
    }

    private static void duePatch(int count, int set, String... rows) {
        StencilWall wall = wallOf(rows);
        String name = String.join("/", rows);
        Check.due("patch(0) of " + name, wall.patch(0), count);
        Check.due("patch(1) of " + name, wall.patch(1), set);
    }

    private static void patch() {
        duePatch(0, 0, "0000", "0000", "0000", "0000");
        duePatch(16, 65535, "6666", "6666", "6666", "6666");
        duePatch(1, 32768, "0000", "0000", "0000", "0005");
        duePatch(1, 1, "1010", "0101", "1010", "0101");
        // a row's end does not touch the next row's beginning
        duePatch(1, 8, "0001", "1000", "0000", "0000");
        duePatch(2, 0x88, "0001", "1001", "1000", "0000");
        duePatch(2, 3, "1122", "0000", "0000", "3030");
        duePatch(4, 0xf, "1111", "0000", "2222", "0000");
        duePatch(4, 0x2e, "0111", "0102", "0002", "0022");
        duePatch(10, 0x9f93, "1102", "1001", "1111", "1001");
        duePatch(12, 0xf99f, "1111", "1001", "1001", "1111");
        duePatch(10, 0xf88f, "1111", "0001", "0001", "1111");
        duePatch(5, 0xf8, "0001", "1111", "0000", "0000");
        duePatch(5, 0x8f00, "0000", "0000", "1111", "0001");
        // of one colour, a later patch is the greater
        duePatch(4, 0xcc00, "1000", "0000", "0011", "0011");
        duePatch(3, 0xe000, "1010", "0000", "1010", "0222");
        StencilWall wall = wallOf("1100", "0000", "0000", "0011");
        wall.lay(1, 1, 1);
        Check.due("patch: wet or dry is no matter", wall.patch(0), 2);
        Check.due("patch: the least bits", wall.patch(1), 3);
        for (int far : FAR) {
            Check.due("patch(" + far + ")", wall.patch(far), OUTSIDE);
        }
    }

    private static void dueBox(int count, int set, String... rows) {
        StencilWall wall = wallOf(rows);
        String name = String.join("/", rows);
        Check.due("box(0) of " + name, wall.box(0), count);
        Check.due("box(1) of " + name, wall.box(1), set);
    }

    private static void box() {
        dueBox(0, 0, "0000", "0000", "0000", "0000");
        dueBox(16, 65535, "6666", "6666", "6666", "6666");
        dueBox(12, 0xfff0, "6661", "4444", "4444", "4444");
        dueBox(1, 32768, "0000", "0000", "0000", "0005");
        dueBox(1, 1, "1212", "2121", "1212", "2121");
        dueBox(4, 0x33, "1133", "1133", "4422", "4422");
        dueBox(6, 0x77, "1111", "1110", "0000", "0000");
        dueBox(9, 0xeee0, "0001", "0666", "0666", "0666");
        dueBox(4, 0x1111, "1222", "1333", "1000", "1000");
        dueBox(3, 0xe, "1222", "1333", "1000", "0000");
        dueBox(4, 0x66, "0110", "0110", "0220", "0220");
        dueBox(2, 3, "1102", "1002", "0000", "0033");
        for (int far : FAR) {
            Check.due("box(" + far + ")", wallOf("1111", "0000", "0000", "0000").box(far), OUTSIDE);
        }
    }

    private static void dueCover(StencilWall wall, int set, int count, int cards) {
        Check.due("cover(" + set + ", 0)", wall.cover(set, 0), count);
        Check.due("cover(" + set + ", 1)", wall.cover(set, 1), cards);
    }

    private static void cover() {
        StencilWall wall = new StencilWall();
        dueCover(wall, 1, NONE, NONE);
        dueCover(wall, 65535, NONE, NONE);
        for (int card = 0; card < 8; card++) {
            wall.card(card, 3 << 2 * card);
        }
        dueCover(wall, 65535, 8, 255);
        dueCover(wall, 1, 1, 1);
        dueCover(wall, 32768, 1, 128);
        dueCover(wall, 32769, 2, 129);
        wall.card(0, 0);
        dueCover(wall, 65535, NONE, NONE);
        dueCover(wall, 65532, 7, 254);
        wall.card(7, 0xfff0);
        wall.card(6, 0x000f);
        dueCover(wall, 65535, 2, 192);
        wall.card(0, 0xff00);
        wall.card(1, 0x00ff);
        dueCover(wall, 65535, 2, 3);
        dueCover(wall, 0x0fff, 2, 3);
        dueCover(wall, 0x00f1, 1, 2);
        dueCover(wall, 0x01f0, 1, 128);
        dueCover(wall, 0x010f, 2, 3);
        Check.due("cover(0, 0)", wall.cover(0, 0), OUTSIDE);
        Check.due("cover(-1, 0)", wall.cover(-1, 0), OUTSIDE);
        Check.due("cover(65536, 1)", wall.cover(65536, 1), OUTSIDE);
        Check.due("cover(MIN, 1)", wall.cover(Integer.MIN_VALUE, 1), OUTSIDE);
        for (int far : FAR) {
            Check.due("cover(1, " + far + ")", wall.cover(1, far), OUTSIDE);
        }
    }

    private static StencilWall withCards(int... holes) {
        StencilWall wall = new StencilWall();
        for (int card = 0; card < holes.length; card++) {
            wall.card(card, holes[card]);
        }
        return wall;
    }

    private static void pictures() {
        Check.due("pictures() of no holes", withCards().pictures(), 1);
        Check.due("pictures() of one card", withCards(1).pictures(), 2);
        Check.due("pictures() of the last of the five", withCards(0, 0, 0, 0, 7).pictures(), 2);
        Check.due("pictures() of cards behind the five", withCards(0, 0, 0, 0, 0, 1, 2, 4).pictures(), 1);
        Check.due("pictures() of two apart", withCards(1, 2).pictures(), 4);
        Check.due("pictures() of two alike", withCards(1, 1).pictures(), 3);
        Check.due("pictures() of two that meet", withCards(3, 6).pictures(), 5);
        Check.due("pictures() of one within another", withCards(3, 1).pictures(), 4);
        Check.due("pictures() of five apart", withCards(1, 2, 4, 8, 16).pictures(), 32);
        Check.due("pictures() of five alike", withCards(9, 9, 9, 9, 9).pictures(), 6);
        // a cell for each of the five, and one for each two of them: every order leaves a wall of its own
        int[] holes = new int[5];
        int cell = 0;
        for (int one = 0; one < 5; one++) {
            holes[one] |= 1 << 11 + one;
            for (int other = one + 1; other < 5; other++) {
                holes[one] |= 1 << cell;
                holes[other] |= 1 << cell;
                cell++;
            }
        }
        StencilWall wall = withCards(holes);
        Check.due("pictures() of five that all meet", wall.pictures(), 326);
        wall.can(1, 0);
        wall.lay(0, 6, 1);
        wall.card(7, 65535);
        Check.due("pictures(): drops and the wall are no matter", wall.pictures(), 326);
    }

    private static void dueMade(StencilWall wall, int count, int order, String... rows) {
        paint(wall, rows);
        String name = String.join("/", rows);
        Check.due("made(0) of " + name, wall.made(0), count);
        Check.due("made(1) of " + name, wall.made(1), order);
    }

    private static void made() {
        StencilWall wall = withCards(0x000f, 0x1111, 0x0003, 0x0001, 0x8000);
        wall.can(1, 0);
        dueMade(wall, 0, 1, "0000", "0000", "0000", "0000");
        dueMade(wall, 1, 10, "1111", "0000", "0000", "0000");
        dueMade(wall, 1, 14, "0000", "0000", "0000", "0005");
        dueMade(wall, 2, 101, "2111", "2000", "2000", "2000");
        dueMade(wall, 2, 110, "1111", "2000", "2000", "2000");
        dueMade(wall, 2, 102, "3311", "0000", "0000", "0000");
        dueMade(wall, 3, 1013, "4111", "2000", "2000", "2000");
        dueMade(wall, 5, 101234, "4311", "2000", "2000", "2005");
        dueMade(wall, 4, 10124, "3311", "2000", "2000", "2005");
        dueMade(wall, 4, 10214, "2311", "2000", "2000", "2005");
        dueMade(wall, NONE, NONE, "6111", "2000", "2000", "2000");
        dueMade(wall, NONE, NONE, "6000", "0000", "0000", "0000");
        dueMade(wall, NONE, NONE, "2000", "0000", "0000", "0000");
        dueMade(wall, NONE, NONE, "0000", "0000", "0000", "0004");
        dueMade(wall, 1, 13, "4000", "0000", "0000", "0000");
        wall.lay(0, 4, 1);
        Check.due("made: wet or dry is no matter", wall.made(1), 13);
        wall.card(5, 0x0010);
        dueMade(wall, NONE, NONE, "0000", "6000", "0000", "0000");
        for (int far : FAR) {
            Check.due("made(" + far + ")", wall.made(far), OUTSIDE);
        }
    }
}
