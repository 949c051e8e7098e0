import java.util.Random;

/** Many runs of 512 calls (an object is good for no more), by fixed seeds: every answer is compared with PlainWall's. */
public final class RandomRunsTest {
    private static final int RUNS = 2000, CALLS = 512, MOST_AT_ONCE = 150;
    private static final String[] ACTS = {"A", "B", "C", "D", "E", "F", "G", "H"};

    private final Random random;
    private final StencilWall wall = new StencilWall();
    private final PlainWall plain = new PlainWall();
    private final String run;
    private int calls = 0;

    private RandomRunsTest(int seed) {
        random = new Random(seed);
        run = "run " + seed + ", call ";
    }

    public static void main(String[] args) {
        for (int seed = 0; seed < RUNS; seed++) {
            new RandomRunsTest(seed).go();
        }
        Check.end();
    }

    private void go() {
        while (calls <= CALLS - MOST_AT_ONCE) {
            switch (random.nextInt(12)) {
                case 0:
                    change();
                    break;
                case 1:
                    write();
                    break;
                case 2:
                    picture();
                    break;
                case 3:
                case 4:
                    evening();
                    break;
                case 5:
                    shapes();
                    break;
                case 6:
                    prints();
                    break;
                case 7:
                    chance();
                    break;
                case 8:
                    images();
                    break;
                default:
                    tell();
                    break;
            }
        }
        while (calls < CALLS) {
            int what = 10 + calls % 16;
            due("told", wall.told(what), plain.told(what));
        }
    }

    private void due(String call, long got, long want) {
        calls++;
        Check.due(run + calls + ": " + call, got, want);
    }

    private int set() {
        switch (random.nextInt(5)) {
            case 0:
                return 1 << random.nextInt(16);
            case 1:
                return random.nextInt(65536) & random.nextInt(65536) & random.nextInt(65536);
            case 2:
                return 0x1111 << random.nextInt(4);
            case 3:
                return 0xf << 4 * random.nextInt(4);
            default:
                return random.nextInt(65536);
        }
    }

    private void change() {
        for (int i = random.nextInt(10); i >= 0; i--) {
            int cell = random.nextInt(16), colour = random.nextInt(7), wet = colour == 0 ? 0 : random.nextInt(2);
            due("lay", wall.lay(cell, colour, wet), plain.lay(cell, colour, wet));
        }
        for (int i = random.nextInt(4); i >= 0; i--) {
            int card = random.nextInt(8), holes = set();
            due("card", wall.card(card, holes), plain.card(card, holes));
        }
        int colour = 1 + random.nextInt(5), drops = random.nextInt(random.nextBoolean() ? 20 : 1000);
        due("can", wall.can(colour, drops), plain.can(colour, drops));
    }

    private String act() {
        switch (random.nextInt(8)) {
            case 0:
                return ".";
            case 1:
                return ACTS[random.nextInt(8)] + "~";
            case 2:
                return (char) ('a' + random.nextInt(16)) + "-";
            default:
                return ACTS[random.nextInt(8)] + random.nextInt(4) + (1 + random.nextInt(5));
        }
    }

    private void write() {
        if (random.nextInt(3) > 0) {
            due("wipe", wall.wipe(), plain.wipe());
        }
        StringBuilder text = new StringBuilder();
        if (random.nextInt(12) == 0) {
            text.append(".".repeat(60));
        }
        for (int i = random.nextInt(random.nextInt(8) == 0 ? 30 : 6); i > 0; i--) {
            text.append(act());
        }
        if (random.nextInt(6) == 0) {
            text.append((char) (33 + random.nextInt(94)));
        }
        for (int i = 0; i < text.length(); i++) {
            due("say", wall.say(text.charAt(i)), plain.say(text.charAt(i)));
        }
    }

    private void evening() {
        due("fault", wall.fault(), plain.fault());
        for (int what = 0; what <= 1; what++) {
            int cell = random.nextInt(16);
            due("judge", wall.judge(what), plain.judge(what));
            due("behind", wall.behind(cell, what), plain.behind(cell, what));
        }
        for (int what = 0; what <= 6; what++) {
            due("then", wall.then(what), plain.then(what));
        }
        int colour = 1 + random.nextInt(5), card = random.nextInt(8), quarters = random.nextInt(8);
        due("left", wall.left(colour), plain.left(colour));
        due("turned", wall.turned(card, quarters), plain.turned(card, quarters));
        if (random.nextBoolean()) {
            due("done", wall.done(), plain.done());
        }
    }

    /** Lays on the wall what some order of the first cards would leave, most often. */
    private void picture() {
        int[] colours = new int[16];
        for (int i = random.nextInt(6); i > 0; i--) {
            int card = random.nextInt(5), holes = plain.told(30 + card);
            for (int cell = 0; cell < 16; cell++) {
                colours[cell] = (holes >> cell & 1) == 1 ? card + 1 : colours[cell];
            }
        }
        for (int cell = 0; cell < 16; cell++) {
            due("lay", wall.lay(cell, colours[cell], 0), plain.lay(cell, colours[cell], 0));
        }
        due("made", wall.made(0), plain.made(0));
        due("made", wall.made(1), plain.made(1));
    }

    private void shapes() {
        int set = 1 + random.nextInt(65535) & 1 + random.nextInt(65535) | 1 << random.nextInt(16);
        for (int what = 0; what <= 1; what++) {
            due("patch", wall.patch(what), plain.patch(what));
            due("box", wall.box(what), plain.box(what));
            due("cover", wall.cover(set, what), plain.cover(set, what));
            due("made", wall.made(what), plain.made(what));
        }
        due("pictures", wall.pictures(), plain.pictures());
    }

    private void prints() {
        if (random.nextInt(3) == 0) {
            due("forget", wall.forget(), plain.forget());
        }
        for (int i = random.nextInt(3); i >= 0; i--) {
            int cell = random.nextInt(16);
            boolean hole = random.nextInt(3) == 0;
            due("seen", wall.seen(cell, hole), plain.seen(cell, hole));
        }
        due("prints", wall.prints(-1), plain.prints(-1));
        int i = random.nextInt(40) - 4;
        due("prints", wall.prints(i), plain.prints(i));
        due("ask", wall.ask(0), plain.ask(0));
        due("ask", wall.ask(1), plain.ask(1));
    }

    private void chance() {
        int n = random.nextInt(11), k = random.nextInt(17), seed = random.nextInt(10000), m = 1 + random.nextInt(99);
        for (int what = 0; what <= 1; what++) {
            for (int part = 0; part <= 1; part++) {
                due("fall", wall.fall(n, k, what, part), plain.fall(n, k, what, part));
            }
        }
        for (int what = 0; what <= 2; what++) {
            due("year " + seed + " " + m, wall.year(seed, m, what), plain.year(seed, m, what));
        }
    }

    private void images() {
        int n = random.nextInt(2);
        if (random.nextBoolean()) {
            due("image", wall.image(n), plain.image(n));
        } else {
            due("restore", wall.restore(n), plain.restore(n));
        }
    }

    private void tell() {
        int[] from = {0, 10, 30, 41};
        int[] many = {4, 16, 8, 5};
        int kind = random.nextInt(4);
        for (int i = 0; i < many[kind]; i++) {
            due("told", wall.told(from[kind] + i), plain.told(from[kind] + i));
        }
    }
}
