/** A wall on which every part of the state is told apart from a new one's, and ways to see that a call changed nothing. */
final class Rich {
    static final int NONE = -6, UNKNOWN = -1, OUTSIDE = -2, STATE = -3, FULL = -4, NO = -5;
    static final long LOST = -1000000000000000000L;
    /** What A to H have for holes; D has none. */
    private static final int[] HOLES = {0x000f, 0x1111, 0x0123, 0, 0x8000, 0x0660, 0x7123, 0xffff};
    private static final int[] DROPS = {999, 4, 0, 50, 17};
    private static final int[] COLOURS = {1, 0, 2, 2, 3, 3, 0, 6, 6, 5, 5, 4, 0, 0, 1, 6};

    interface Call {
        long on(StencilWall wall);
    }

    interface NumberCall {
        long on(StencilWall wall, int number);
    }

    private Rich() {
    }

    /** The first image is kept, the second one is not; it is hour 2; two sights; six acts on the pad, which can be. */
    static StencilWall wall() {
        StencilWall wall = new StencilWall();
        wall.lay(3, 4, 1);
        wall.card(4, 0x0030);
        wall.seen(9, true);
        wall.image(0);
        wall.forget();
        say(wall, "..");
        wall.done();
        for (int card = 0; card < 8; card++) {
            wall.card(card, HOLES[card]);
        }
        for (int colour = 1; colour <= 5; colour++) {
            wall.can(colour, DROPS[colour - 1]);
        }
        for (int cell = 0; cell < 16; cell++) {
            wall.lay(cell, COLOURS[cell], COLOURS[cell] == 0 ? 0 : cell % 2);
        }
        wall.seen(3, true);
        wall.seen(0, false);
        say(wall, "B14C~e-.A35C22");
        return wall;
    }

    static void say(StencilWall wall, String text) {
        for (int i = 0; i < text.length(); i++) {
            wall.say(text.charAt(i));
        }
    }

    /** All that can be heard of a wall: as it is, with its evening done, and with its images back. */
    static String whole(StencilWall wall) {
        StringBuilder text = new StringBuilder(Check.fingerprint(wall));
        text.append(wall.done()).append(' ').append(Check.fingerprint(wall));
        text.append(wall.restore(1)).append(' ').append(wall.restore(0)).append(' ').append(Check.fingerprint(wall));
        return text.toString();
    }

    /** The call is refused on one of two walls that are alike, and these stay alike. */
    static void refused(String name, Call before, Call call, long refusal) {
        StencilWall wall = wall();
        StencilWall twin = wall();
        before.on(wall);
        before.on(twin);
        Check.due(name, call.on(wall), refusal);
        Check.that(name + " changes nothing", whole(wall).equals(whole(twin)));
    }

    static void refused(String name, Call call, long refusal) {
        refused(name, wall -> 0, call, refusal);
    }

    /** From the least number to the most (all of them, if they are few) it is not refused; on both sides it is. */
    static void bounds(String name, int least, int most, long refusal, NumberCall call) {
        int[] wrong = {least - 1, most + 1, least - 2, most + 2, -65536, 65537 + most, Integer.MIN_VALUE,
            Integer.MIN_VALUE + 1, Integer.MAX_VALUE - 1, Integer.MAX_VALUE};
        for (int number : wrong) {
            refused(name + " " + number, wall -> call.on(wall, number), refusal);
        }
        int step = most - least < 128 ? 1 : most - least;
        for (int number = least; number <= most; number += step) {
            long answer = call.on(wall(), number);
            Check.that(name + " " + number + " answered " + answer + ", is not refused", answer >= 0 || answer == NONE);
        }
    }
}
