import java.util.Arrays;

/** Stencils on a wall; ../shared/DOC.md says what each call answers. Sets of cells are bits, cell 0 the lowest. */
public final class StencilWall {
    public static final int NONE = -6, UNKNOWN = -1, OUTSIDE = -2, STATE = -3, FULL = -4, NO = -5;
    public static final long LOST = -1000000000000000000L;

    private static final int SIDE = 4, CELLS = 16, ALL_CELLS = 65535;
    private static final int BARE = 0, COLOURS = 5, MUD = 6;
    private static final int CARDS = 8, QUARTERS = 4;
    private static final int MOST_DROPS = 999, FIRST_DROPS = 50, LAST_HOUR = 99;
    private static final int MOST_SIGHTS = 8;
    private static final int POSSIBLE = 0, NO_HOLES = 1, TOO_FEW_DROPS = 2, SAME_HOLES = 3, BARE_ALREADY = 4, TOO_LATE = 5;

    private final Scene now = new Scene();
    /** Where evenings and years are played without being done. */
    private final Scene trial = new Scene();
    private final Scene firstImage = new Scene();
    private final Scene secondImage = new Scene();
    private boolean firstKept;
    private boolean secondKept;
    private final Pad pad = new Pad();
    private final Evening evening = new Evening();
    private final Orders orders = new Orders();
    private final Fitting fitting = new Fitting();
    private final Falling falling = new Falling();

    public StencilWall() {
    }

    // ---- 1 the wall, cards, cans

    public int lay(int cell, int colour, int wet) {
        if (!isCell(cell)) {
            return UNKNOWN;
        }
        int wettest = colour == BARE ? 0 : 1;
        if (!within(colour, BARE, MUD) || !within(wet, 0, wettest)) {
            return OUTSIDE;
        }
        int before = now.colourOf(cell);
        now.paint(1 << cell, colour);
        now.wetten(1 << cell, wet == 1);
        return before;
    }

    public int card(int card, int holes) {
        if (!isCard(card)) {
            return UNKNOWN;
        }
        if (!within(holes, 0, ALL_CELLS)) {
            return OUTSIDE;
        }
        int before = now.holesOf(card);
        now.cut(card, holes);
        return before;
    }

    public int can(int colour, int drops) {
        if (!isCan(colour)) {
            return UNKNOWN;
        }
        if (!within(drops, 0, MOST_DROPS)) {
            return OUTSIDE;
        }
        int before = now.dropsOf(colour);
        now.fill(colour, drops);
        return before;
    }

    public int say(int sign) {
        if (!within(sign, Pad.FIRST_SIGN, Pad.LAST_SIGN)) {
            return OUTSIDE;
        }
        return pad.add(sign) ? pad.length() : FULL;
    }

    public int wipe() {
        int before = pad.length();
        pad.clear();
        return before;
    }

    public int fault() {
        return pad.firstWrong();
    }

    // ---- 2 evenings

    public int judge(int what) {
        if (!within(what, 0, 1)) {
            return OUTSIDE;
        }
        if (pad.firstWrong() != NONE) {
            return NO;
        }
        evening.play(pad, now, trial);
        return what == 0 ? evening.stoppedAt : evening.reason;
    }

    public int done() {
        if (!eveningCanBe()) {
            return NO;
        }
        now.copyFrom(trial);
        pad.clear();
        return evening.acts;
    }

    public int behind(int cell, int what) {
        if (!isCell(cell)) {
            return UNKNOWN;
        }
        if (!within(what, 0, 1)) {
            return OUTSIDE;
        }
        if (!eveningCanBe()) {
            return NO;
        }
        return what == 0 ? trial.colourOf(cell) : trial.wet >> cell & 1;
    }

    public int left(int colour) {
        if (!isCan(colour)) {
            return UNKNOWN;
        }
        return eveningCanBe() ? trial.dropsOf(colour) : NO;
    }

    public int then(int what) {
        if (!within(what, 0, 6)) {
            return OUTSIDE;
        }
        if (!eveningCanBe()) {
            return NO;
        }
        switch (what) {
            case 0:
                return trial.countOf(MUD);
            case 1:
                return trial.countOf(BARE);
            case 2:
                return trial.wet;
            case 3:
                return trial.hour;
            case 4:
                return trial.sprayed;
            case 5:
                return evening.mudAct;
            default:
                return evening.mudCell;
        }
    }

    public int turned(int card, int quarters) {
        if (!isCard(card)) {
            return UNKNOWN;
        }
        if (!within(quarters, 0, 2 * QUARTERS - 1)) {
            return OUTSIDE;
        }
        int holes = now.holesOf(card);
        return quarters < QUARTERS
            ? Turns.byQuarters(holes, quarters)
            : Turns.byQuarters(Turns.over(holes), quarters - QUARTERS);
    }

    // ---- 3 patches, boxes, covers, pictures

    public int patch(int what) {
        return within(what, 0, 1) ? countOrSet(Shapes.greatestPatch(now), what) : OUTSIDE;
    }

    public int box(int what) {
        return within(what, 0, 1) ? countOrSet(Shapes.greatestBox(now), what) : OUTSIDE;
    }

    public int cover(int set, int what) {
        if (!within(set, 1, ALL_CELLS) || !within(what, 0, 1)) {
            return OUTSIDE;
        }
        int cards = fewestCards(set);
        // a set of one cell or more is never covered by no cards, so 0 is free to tell that nothing covers it
        return cards == 0 ? NONE : countOrSet(cards, what);
    }

    public int pictures() {
        orders.tryAll(now);
        return orders.walls;
    }

    public int made(int what) {
        if (!within(what, 0, 1)) {
            return OUTSIDE;
        }
        orders.tryAll(now);
        if (orders.first == NONE) {
            return NONE;
        }
        return what == 0 ? Orders.cardsIn(orders.first) : orders.first;
    }

    // ---- 4 prints, steps, drops

    public int seen(int cell, boolean hole) {
        if (!isCell(cell)) {
            return UNKNOWN;
        }
        if (now.sights >= MOST_SIGHTS) {
            return FULL;
        }
        now.see(cell, hole);
        return now.sights;
    }

    public int forget() {
        int before = now.sights;
        now.unsee();
        return before;
    }

    public int prints(int i) {
        fitting.gather(now);
        return i == -1 ? fitting.count : fitting.nameOf(i);
    }

    public int ask(int what) {
        if (!within(what, 0, 1)) {
            return OUTSIDE;
        }
        fitting.gather(now);
        if (fitting.count == 0) {
            return NONE;
        }
        int cell = fitting.bestToAsk();
        return what == 0 ? cell : fitting.leftAtMost(cell);
    }

    public int steps(int cans, int what) {
        if (!within(cans, 0, 99999) || !within(what, 0, 1)) {
            return OUTSIDE;
        }
        int move = Stairs.leastWinningMove(cans);
        if (what == 0) {
            return move == NONE ? 0 : 1;
        }
        return move;
    }

    public long fall(int n, int k, int what, int part) {
        if (!within(n, 0, Falling.MOST_DROPS_FALLING) || !within(k, 0, CELLS) || !within(what, 0, 1) || !within(part, 0, 1)) {
            return LOST + OUTSIDE;
        }
        long upper = what == 0 ? falling.waysToHit(n, k) : Falling.hitsInAllWays(n);
        return Falling.partOf(upper, Falling.power(CELLS, n), part);
    }

    public int year(int seed, int m, int what) {
        if (!within(seed, 0, 9999) || !within(m, 1, 99) || !within(what, 0, 2)) {
            return OUTSIDE;
        }
        trial.copyFrom(now);
        Years.play(trial, seed, m);
        if (what == 2) {
            return trial.sprayed;
        }
        return trial.countOf(what == 0 ? MUD : BARE);
    }

    public int image(int n) {
        if (!within(n, 0, 1)) {
            return OUTSIDE;
        }
        if (n == 0) {
            firstImage.copyFrom(now);
            firstKept = true;
        } else {
            secondImage.copyFrom(now);
            secondKept = true;
        }
        return 1;
    }

    public int restore(int n) {
        if (!within(n, 0, 1)) {
            return OUTSIDE;
        }
        boolean kept = n == 0 ? firstKept : secondKept;
        if (!kept) {
            return STATE;
        }
        now.copyFrom(n == 0 ? firstImage : secondImage);
        return 1;
    }

    public int told(int what) {
        if (within(what, 10, 10 + CELLS - 1)) {
            return now.colourOf(what - 10);
        }
        if (within(what, 30, 30 + CARDS - 1)) {
            return now.holesOf(what - 30);
        }
        if (within(what, 40 + 1, 40 + COLOURS)) {
            return now.dropsOf(what - 40);
        }
        switch (what) {
            case 0:
                return pad.length();
            case 1:
                return now.wet;
            case 2:
                return now.hour;
            case 3:
                return now.sights;
            default:
                return OUTSIDE;
        }
    }

    private static boolean within(int number, int least, int most) {
        return number >= least && number <= most;
    }

    private static boolean isCell(int cell) {
        return within(cell, 0, CELLS - 1);
    }

    private static boolean isCard(int card) {
        return within(card, 0, CARDS - 1);
    }

    private static boolean isCan(int colour) {
        return within(colour, 1, COLOURS);
    }

    private static int countOrSet(int set, int what) {
        return what == 0 ? Integer.bitCount(set) : set;
    }

    /** Leaves what is BEHIND the evening on the trial scene, if the evening can be. */
    private boolean eveningCanBe() {
        if (pad.firstWrong() != NONE) {
            return false;
        }
        evening.play(pad, now, trial);
        return evening.stoppedAt == NONE;
    }

    /** 0 if all cards together do not have these holes. */
    private int fewestCards(int set) {
        int best = 0;
        for (int cards = 1; cards < 1 << CARDS; cards++) {
            // rising bits: only a smaller hand may take the place of an earlier one
            boolean fewer = best == 0 || Integer.bitCount(cards) < Integer.bitCount(best);
            if (fewer && (set & ~now.holesOfAll(cards)) == 0) {
                best = cards;
            }
        }
        return best;
    }

    /** All that an IMAGE keeps: the wall, the cards, the cans, the hour, the sights. */
    private static final class Scene {
        private final int[] cellsByColour = new int[MUD + 1];
        private final int[] holes = new int[CARDS];
        private final int[] drops = new int[COLOURS + 1];
        private int wet;
        private int hour;
        private int sights;
        private int seenUnderHoles;
        private int seenUnderCard;
        /** Drops sprayed since this scene was copied from another. */
        private int sprayed;
        /** The cells that the last spraying made mud and that were none. */
        private int muddied;

        private Scene() {
            cellsByColour[BARE] = ALL_CELLS;
            Arrays.fill(drops, FIRST_DROPS);
        }

        private void copyFrom(Scene other) {
            System.arraycopy(other.cellsByColour, 0, cellsByColour, 0, MUD + 1);
            System.arraycopy(other.holes, 0, holes, 0, CARDS);
            System.arraycopy(other.drops, 0, drops, 0, COLOURS + 1);
            wet = other.wet;
            hour = other.hour;
            sights = other.sights;
            seenUnderHoles = other.seenUnderHoles;
            seenUnderCard = other.seenUnderCard;
            sprayed = 0;
            muddied = 0;
        }

        private int cellsOf(int colour) {
            return colour >= BARE && colour <= MUD ? cellsByColour[colour] : 0;
        }

        private int countOf(int colour) {
            return Integer.bitCount(cellsOf(colour));
        }

        private int colourOf(int cell) {
            for (int colour = 1; colour <= MUD; colour++) {
                if ((cellsByColour[colour] >> cell & 1) == 1) {
                    return colour;
                }
            }
            return BARE;
        }

        private int holesOf(int card) {
            return card >= 0 && card < CARDS ? holes[card] : 0;
        }

        private int holesOfAll(int cards) {
            int together = 0;
            for (int card = 0; card < CARDS; card++) {
                if ((cards >> card & 1) == 1) {
                    together |= holes[card];
                }
            }
            return together;
        }

        private int dropsOf(int colour) {
            return colour >= 1 && colour <= COLOURS ? drops[colour] : 0;
        }

        private void paint(int set, int colour) {
            for (int each = BARE; each <= MUD; each++) {
                int others = cellsByColour[each] & ~set;
                cellsByColour[each] = each == colour ? others | set : others;
            }
        }

        private void wetten(int set, boolean soaked) {
            wet = soaked ? wet | set : wet & ~set;
        }

        private void cut(int card, int set) {
            if (card >= 0 && card < CARDS) {
                holes[card] = set;
            }
        }

        private void fill(int colour, int number) {
            if (colour >= 1 && colour <= COLOURS) {
                drops[colour] = number;
            }
        }

        private void see(int cell, boolean hole) {
            sights++;
            if (hole) {
                seenUnderHoles |= 1 << cell;
            } else {
                seenUnderCard |= 1 << cell;
            }
        }

        private void unsee() {
            sights = 0;
            seenUnderHoles = 0;
            seenUnderCard = 0;
        }

        private boolean agreesWith(int holesOfPrint) {
            return (seenUnderHoles & ~holesOfPrint) == 0 && (seenUnderCard & holesOfPrint) == 0;
        }

        // The acts answer why they can not be, and change nothing then; or POSSIBLE.

        private int spray(int card, int quarters, int colour) {
            int under = Turns.byQuarters(holesOf(card), quarters);
            int needed = Integer.bitCount(under);
            if (needed == 0) {
                return NO_HOLES;
            }
            if (dropsOf(colour) < needed) {
                return TOO_FEW_DROPS;
            }
            int spoilt = under & wet & ~cellsOf(colour);
            muddied = spoilt & ~cellsOf(MUD);
            paint(under, colour);
            paint(spoilt, MUD);
            wetten(under, true);
            fill(colour, dropsOf(colour) - needed);
            sprayed += needed;
            return POSSIBLE;
        }

        private int turnOver(int card) {
            int over = Turns.over(holesOf(card));
            if (over == holesOf(card)) {
                return SAME_HOLES;
            }
            cut(card, over);
            return POSSIBLE;
        }

        private int scrape(int cell) {
            if (colourOf(cell) == BARE) {
                return BARE_ALREADY;
            }
            paint(1 << cell, BARE);
            wetten(1 << cell, false);
            return POSSIBLE;
        }

        private int waitAnHour() {
            if (hour >= LAST_HOUR) {
                return TOO_LATE;
            }
            hour++;
            wet = 0;
            return POSSIBLE;
        }
    }

    /** How holes move when a card is turned. */
    private static final class Turns {
        private static int byQuarters(int holes, int quarters) {
            int turned = holes;
            for (int quarter = 0; quarter < quarters && quarter < QUARTERS; quarter++) {
                turned = byOneQuarter(turned);
            }
            return turned;
        }

        private static int byOneQuarter(int holes) {
            int turned = 0;
            for (int row = 0; row < SIDE; row++) {
                for (int place = 0; place < SIDE; place++) {
                    int hole = holes >> SIDE * row + place & 1;
                    turned |= hole << SIDE * place + SIDE - 1 - row;
                }
            }
            return turned;
        }

        private static int over(int holes) {
            int outer = (holes & 0x1111) << 3 | (holes & 0x8888) >> 3;
            int inner = (holes & 0x2222) << 1 | (holes & 0x4444) >> 1;
            return outer | inner;
        }
    }

    /** The text of an evening, and which signs can stand where. */
    private static final class Pad {
        private static final int FIRST_SIGN = 33, LAST_SIGN = 126, MOST_SIGNS = 60;
        /** What was read last: a whole act (or nothing), a card, its quarters, a cell; or a sign that can not stand there. */
        private static final int WHOLE = 0, CARD = 1, QUARTER = 2, CELL = 3, WRONG = 4;

        private final int[] signs = new int[MOST_SIGNS];
        private int length;

        private int length() {
            return length;
        }

        private void clear() {
            length = 0;
        }

        private boolean add(int sign) {
            if (length < 0 || length >= MOST_SIGNS) {
                return false;
            }
            signs[length] = sign;
            length++;
            return true;
        }

        /** 0, which is no sign, behind the end. */
        private int signAt(int place) {
            return place >= 0 && place < length && place < MOST_SIGNS ? signs[place] : 0;
        }

        private int firstWrong() {
            int reading = WHOLE;
            for (int place = 0; place < length; place++) {
                reading = readingAfter(reading, signAt(place));
                if (reading == WRONG) {
                    return place;
                }
            }
            return reading == WHOLE ? NONE : length;
        }

        private static int readingAfter(int reading, int sign) {
            switch (reading) {
                case WHOLE:
                    return readingOfFirst(sign);
                case CARD:
                    if (sign == '~') {
                        return WHOLE;
                    }
                    return within(sign, '0', '3') ? QUARTER : WRONG;
                case QUARTER:
                    return within(sign, '1', '5') ? WHOLE : WRONG;
                case CELL:
                    return sign == '-' ? WHOLE : WRONG;
                default:
                    return WRONG;
            }
        }

        private static int readingOfFirst(int sign) {
            if (within(sign, 'A', 'H')) {
                return CARD;
            }
            if (within(sign, 'a', 'p')) {
                return CELL;
            }
            return sign == '.' ? WHOLE : WRONG;
        }

        /** How many signs the act has that begins at this place of a text without a fault. */
        private int lengthOfAct(int place) {
            int kind = readingOfFirst(signAt(place));
            if (kind == WHOLE) {
                return 1;
            }
            return kind == CARD && signAt(place + 1) != '~' ? 3 : 2;
        }

        /** Does the act that begins at this place of a text without a fault; answers as the scene's acts do. */
        private int actAt(int place, Scene scene) {
            int first = signAt(place);
            int second = signAt(place + 1);
            switch (readingOfFirst(first)) {
                case CARD:
                    if (second == '~') {
                        return scene.turnOver(first - 'A');
                    }
                    return scene.spray(first - 'A', second - '0', signAt(place + 2) - '0');
                case CELL:
                    return scene.scrape(first - 'a');
                default:
                    return scene.waitAnHour();
            }
        }
    }

    /** What came of the evening that was played last. */
    private static final class Evening {
        private int acts;
        private int stoppedAt;
        private int reason;
        private int mudAct;
        private int mudCell;

        /** The text has no fault. The scene is made like the other one first, which stays as it is: nothing is done in fact. */
        private void play(Pad pad, Scene from, Scene scene) {
            begin();
            scene.copyFrom(from);
            int place = 0;
            for (int act = 0; act < Pad.MOST_SIGNS && place < pad.length(); act++) {
                int why = pad.actAt(place, scene);
                if (why != POSSIBLE) {
                    stoppedAt = act;
                    reason = why;
                    return;
                }
                if (mudAct == NONE && scene.muddied != 0) {
                    mudAct = act;
                    mudCell = Integer.numberOfTrailingZeros(scene.muddied);
                }
                acts++;
                place += pad.lengthOfAct(place);
            }
        }

        private void begin() {
            acts = 0;
            stoppedAt = NONE;
            reason = NONE;
            mudAct = NONE;
            mudCell = NONE;
        }
    }

    /** The greatest patch and the greatest box, as sets. */
    private static final class Shapes {
        private static final int FIRST_PLACES = 0x1111, LAST_PLACES = 0x8888;

        private static int greatestPatch(Scene scene) {
            int best = 0;
            for (int colour = 1; colour <= MUD; colour++) {
                int rest = scene.cellsOf(colour);
                for (int round = 0; round < CELLS && rest != 0; round++) {
                    int patch = patchFrom(rest & -rest, rest);
                    best = greater(best, patch);
                    rest &= ~patch;
                }
            }
            return best;
        }

        private static int patchFrom(int start, int cells) {
            int patch = start;
            for (int round = 0; round < CELLS; round++) {
                patch |= beside(patch) & cells;
            }
            return patch;
        }

        /** Rows end: a step to the side must not lead round into the next row. */
        private static int beside(int set) {
            int aside = (set & ~LAST_PLACES) << 1 | (set & ~FIRST_PLACES) >> 1;
            return aside | set << SIDE | set >> SIDE;
        }

        private static int greatestBox(Scene scene) {
            int best = 0;
            for (int left = 0; left < SIDE; left++) {
                for (int right = left; right < SIDE; right++) {
                    int places = (1 << right + 1) - (1 << left);
                    best = greater(best, greatestBoxOf(places, scene));
                }
            }
            return best;
        }

        /** Places: those of one row, as bits. */
        private static int greatestBoxOf(int places, Scene scene) {
            int best = 0;
            for (int top = 0; top < SIDE; top++) {
                int box = 0;
                for (int bottom = top; bottom < SIDE; bottom++) {
                    box |= places << SIDE * bottom;
                    if (isOfOneColour(box, scene)) {
                        best = greater(best, box);
                    }
                }
            }
            return best;
        }

        private static boolean isOfOneColour(int set, Scene scene) {
            for (int colour = 1; colour <= MUD; colour++) {
                if ((set & ~scene.cellsOf(colour)) == 0) {
                    return true;
                }
            }
            return false;
        }

        private static int greater(int one, int other) {
            int more = Integer.bitCount(one) - Integer.bitCount(other);
            if (more == 0) {
                return Math.min(one, other);
            }
            return more > 0 ? one : other;
        }
    }

    /** All orders in which some of the first cards are sprayed on a bare wall, an hour between any two. */
    private static final class Orders {
        private static final int HAND = 5;
        /** Of none to five cards: 1, 5, 20, 60, 120 and 120. */
        private static final int MOST_ORDERS = 326;
        /** Four bits a cell: a wall of colours is one number then, and two walls are compared at once. */
        private static final int BITS = 4;
        private static final long WHOLE_CELL = 15L;
        /** A power of 2, and more than there are orders: a free slot is always found. */
        private static final int SLOTS = 512;
        private static final int SLOT_SHIFT = 55;
        private static final long SCATTER = 0x9E3779B97F4A7C15L;
        /** No wall: colour 15 does not exist. */
        private static final long FREE = -1L;

        /** By card: 1 in each cell that is under a hole. */
        private final long[] holes = new long[HAND];
        private final long[] wallAt = new long[MOST_ORDERS];
        private final int[] usedAt = new int[MOST_ORDERS];
        private final int[] orderAt = new int[MOST_ORDERS];
        private final long[] slots = new long[SLOTS];
        private int count;
        private long target;
        /** How many unlike walls there are. */
        private int walls;
        /** The first order by which the wall is as it is now, as the document tells it; NONE. */
        private int first;

        /** Each order is followed later by those of one card more: so they come by how many cards, then rising. */
        private void tryAll(Scene scene) {
            begin(scene);
            for (int i = 0; i < count && i < MOST_ORDERS; i++) {
                for (int card = 0; card < HAND; card++) {
                    if ((usedAt[i] >> card & 1) == 0) {
                        long kept = wallAt[i] & ~(WHOLE_CELL * holes[card]);
                        long wall = kept | (card + 1) * holes[card];
                        add(wall, usedAt[i] | 1 << card, 10 * orderAt[i] + card);
                    }
                }
            }
        }

        private void begin(Scene scene) {
            for (int card = 0; card < HAND; card++) {
                holes[card] = spread(scene.holesOf(card));
            }
            target = wallOf(scene);
            Arrays.fill(slots, FREE);
            count = 0;
            walls = 0;
            first = NONE;
            add(0L, 0, 1);
        }

        private static long spread(int set) {
            long wall = 0L;
            for (int cell = 0; cell < CELLS; cell++) {
                wall |= (long) (set >> cell & 1) << BITS * cell;
            }
            return wall;
        }

        private static long wallOf(Scene scene) {
            long wall = 0L;
            for (int colour = 1; colour <= MUD; colour++) {
                wall |= colour * spread(scene.cellsOf(colour));
            }
            return wall;
        }

        private void add(long wall, int used, int order) {
            if (count < 0 || count >= MOST_ORDERS) {
                return;
            }
            wallAt[count] = wall;
            usedAt[count] = used;
            orderAt[count] = order;
            count++;
            if (first == NONE && wall == target) {
                first = order;
            }
            if (isNew(wall)) {
                walls++;
            }
        }

        /** Looks from the wall's own slot on, and takes the first free one for it. */
        private boolean isNew(long wall) {
            int slot = (int) (wall * SCATTER >>> SLOT_SHIFT);
            for (int tries = 0; tries < SLOTS; tries++) {
                int at = slot + tries & SLOTS - 1;
                if (slots[at] == wall) {
                    return false;
                }
                if (slots[at] == FREE) {
                    slots[at] = wall;
                    return true;
                }
            }
            return false;
        }

        private static int cardsIn(int order) {
            int cards = 0;
            int rest = order / 10;
            for (int figure = 0; figure < HAND && rest > 0; figure++) {
                cards++;
                rest /= 10;
            }
            return cards;
        }
    }

    /** The prints by which all sights are so. */
    private static final class Fitting {
        private static final int MOST_PRINTS = CARDS * QUARTERS;

        private final int[] names = new int[MOST_PRINTS];
        private final int[] holes = new int[MOST_PRINTS];
        private int count;

        private void gather(Scene scene) {
            count = 0;
            for (int card = 0; card < CARDS; card++) {
                int turned = scene.holesOf(card);
                for (int quarters = 0; quarters < QUARTERS; quarters++) {
                    if (scene.agreesWith(turned)) {
                        add(10 * card + quarters, turned);
                    }
                    turned = Turns.byOneQuarter(turned);
                }
            }
        }

        private void add(int name, int holesOfPrint) {
            if (count >= 0 && count < MOST_PRINTS) {
                names[count] = name;
                holes[count] = holesOfPrint;
                count++;
            }
        }

        private int nameOf(int i) {
            return i >= 0 && i < count && i < MOST_PRINTS ? names[i] : NONE;
        }

        private int bestToAsk() {
            int best = 0;
            for (int cell = 1; cell < CELLS; cell++) {
                if (leftAtMost(cell) < leftAtMost(best)) {
                    best = cell;
                }
            }
            return best;
        }

        private int leftAtMost(int cell) {
            int under = 0;
            for (int i = 0; i < count && i < MOST_PRINTS; i++) {
                under += holes[i] >> cell & 1;
            }
            return Math.max(under, count - under);
        }
    }

    /**
     * The game of steps. Cans on steps 2 and 4 are of no matter: what one puts down from there, the other puts down
     * once more. So who begins has lost just if the cans on steps 1, 3 and 5, taken as bits, leave nothing over.
     */
    private static final class Stairs {
        private static final int STEPS = 5;

        private static int leastWinningMove(int cans) {
            for (int step = 1; step <= STEPS; step++) {
                int there = cansOn(step, cans);
                for (int number = 1; number <= there; number++) {
                    if (oddBits(cans, step, number) == 0) {
                        return 10 * step + number;
                    }
                }
            }
            return NONE;
        }

        private static int cansOn(int step, int cans) {
            int rest = cans;
            for (int behind = step; behind < STEPS; behind++) {
                rest /= 10;
            }
            return rest % 10;
        }

        /** What steps 1, 3 and 5 leave over once so many of this step are put down. */
        private static int oddBits(int cans, int step, int number) {
            int bits = 0;
            for (int odd = 1; odd <= STEPS; odd += 2) {
                int there = cansOn(odd, cans);
                if (odd == step) {
                    there -= number;
                } else if (odd == step - 1) {
                    there += number;
                }
                bits ^= there;
            }
            return bits;
        }
    }

    /** Drops that fall by chance, counted over all ways in which they can fall. */
    private static final class Falling {
        private static final int MOST_DROPS_FALLING = 10;
        /** 16 to the 10th is 2 to this. */
        private static final int MOST_HALVINGS = 40;

        private final long[] ways = new long[CELLS + 1];

        private long waysToHit(int n, int k) {
            Arrays.fill(ways, 0L);
            ways[0] = 1L;
            for (int drop = 0; drop < n; drop++) {
                // downward: each number is read before it is written over
                for (int hit = CELLS; hit > 0; hit--) {
                    ways[hit] = ways[hit] * hit + ways[hit - 1] * (CELLS - hit + 1);
                }
                ways[0] = 0L;
            }
            return k >= 0 && k <= CELLS ? ways[k] : 0L;
        }

        /** A cell stays dry in 15 to the n ways, is hit in all others. */
        private static long hitsInAllWays(int n) {
            return CELLS * (power(CELLS, n) - power(CELLS - 1, n));
        }

        private static long power(int base, int exponent) {
            long product = 1L;
            for (int i = 0; i < exponent; i++) {
                product *= base;
            }
            return product;
        }

        /** The lower number is a power of 2: halving alone brings it to lowest terms. */
        private static long partOf(long upper, long lower, int part) {
            long over = upper;
            long under = lower;
            for (int i = 0; i < MOST_HALVINGS && (over & 1L) == 0L && under > 1L; i++) {
                over /= 2L;
                under /= 2L;
            }
            return part == 0 ? over : under;
        }
    }

    /** A year of acts by draws. */
    private static final class Years {
        private static void play(Scene scene, int seed, int acts) {
            int x = seed;
            for (int act = 0; act < acts; act++) {
                // below 75 times 65537 and 74, so it never wraps
                x = (75 * x + 74) % 65537;
                actOf(x % 8, x / 8, scene);
            }
        }

        /** An act that can not be is passed over: the scene leaves all as it is then. */
        private static void actOf(int kind, int y, Scene scene) {
            switch (kind) {
                case 5:
                    scene.turnOver(y % CARDS);
                    break;
                case 6:
                    scene.scrape(y % CELLS);
                    break;
                case 7:
                    scene.waitAnHour();
                    break;
                default:
                    scene.spray(y % CARDS, y / 8 % QUARTERS, 1 + y / 32 % COLOURS);
                    break;
            }
        }
    }
}
