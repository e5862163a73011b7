import java.util.Arrays;

/**
 * Yards paved with bricks two cells long. The face only looks at the numbers it is given and names
 * what is wrong with them; the classes inside do the work and may trust what they are given.
 */
public final class PavedYards {
    public static final int BAD = -1, NOT = -2, FULL = -3, NONE = -4, NULL = -11, CAST = -12, INDEX = -13, SIZE = -14;

    private static final int LONGEST = 8, MOST_CELLS = 64, MOST_BRICKS = 128, MASKS = 256;
    private static final int CORNERS_IN_ROW = 9, MOST_CORNERS = 81, FRAME_IN_ROW = 10, MOST_REACHED = 100;
    private static final int MOST_SLOTS = 4, MOST_SHEETS = 4, MOST_ITEMS = 64, MOST_TYPED = 90;
    private static final int FREE = 0, MUST = 1, MAY_NOT = 2, HIGHEST_PRICE = 999;
    private static final int BOOLEANS = 0, BYTES = 1, INTS = 2;
    private static final int FAULTS = -20, HEIGHT_FAULTS = -1000;

    private final Yard yard = new Yard();
    private final Tape tape = new Tape();
    private final Sweep sweep = new Sweep();
    private final Crossing crossing = new Crossing();
    private final Match match = new Match();
    private final Shape shape = new Shape();
    private final Heights heights = new Heights();
    private final Rings rounds = new Rings();
    private final Paving[] slots = new Paving[MOST_SLOTS];
    private final Sheet[] sheets = new Sheet[MOST_SHEETS];

    public PavedYards() {
        for (int i = 0; i < MOST_SLOTS; i++) slots[i] = new Paving();
        for (int i = 0; i < MOST_SHEETS; i++) sheets[i] = new Sheet();
    }

    // ---- 1 the yard

    public int yard(int w, int h) {
        if (w < 1 || w > LONGEST || h < 1 || h > LONGEST) return BAD;
        startYard(w, h);
        return yard.cells();
    }

    public int cell(int c, boolean isOpen) {
        if (!yard.isCell(c)) return BAD;
        return bit(changeCell(c, isOpen));
    }

    public int type(long w, int n) {
        if (n < 1 || n > 8 || !tape.canType(w, n)) return BAD;
        if (tape.size + n > MOST_TYPED) return FULL;
        return tape.append(w, n);
    }

    public int read() {
        int fault = tape.parse();
        tape.size = 0;
        if (fault < 0) return fault;
        startYard(tape.wide, tape.high);
        for (int c = 0; c < yard.cells(); c++) changeCell(c, tape.isOpenAt(yard.column(c), yard.row(c)));
        return yard.openCells();
    }

    public int lay(int c, int sheet, int i) {
        if (c < 0 || c > yard.cells() || !isSheet(sheet)) return BAD;
        int fault = sheetFault(sheet, BOOLEANS);
        if (fault < 0) return fault;
        Sheet row = sheets[sheet];
        if (i < 0 || i > row.size) return INDEX;
        int n = row.size - i;
        if (n > yard.cells() - c) return BAD;
        for (int k = 0; k < n; k++) changeCell(c + k, row.items[i + k] != 0);
        return n;
    }

    public int count(int what) {
        switch (what) {
            case 0: return yard.w;
            case 1: return yard.h;
            case 2: return yard.openCells();
            case 3: return yard.darkCells();
            case 4: return yard.standingBricks();
            case 5: return yard.wantedBricks(MUST);
            case 6: return yard.wantedBricks(MAY_NOT);
            case 7: return heldSlots();
            default: return BAD;
        }
    }

    // ---- 2 pavings

    public int want(int brick, int how) {
        if (how < FREE || how > MAY_NOT || !yard.stands(brick)) return BAD;
        int was = yard.want[brick];
        yard.want[brick] = how;
        if (was != how) sweep.forget();
        return was;
    }

    public int price(int brick, int v) {
        if (v < 0 || v > HIGHEST_PRICE || !yard.stands(brick)) return BAD;
        int was = yard.price[brick];
        yard.price[brick] = v;
        if (was != v) sweep.forget();
        return was;
    }

    public long pavings() {
        return sweep.total(yard);
    }

    public long share(int brick) {
        if (!yard.stands(brick)) return BAD;
        sweep.fillShares(yard);
        return sweep.shares[brick];
    }

    public int sure(int what) {
        if (what != 0 && what != 1) return BAD;
        long all = sweep.total(yard);
        if (all == 0) return NONE;
        sweep.fillShares(yard);
        return sweep.bricksWithShare(yard, what == 0 ? all : 0);
    }

    public int place(int slot, long rank) {
        if (!isSlot(slot) || rank < 0 || rank >= sweep.total(yard)) return BAD;
        sweep.layByRank(yard, rank, slots[slot]);
        return yard.openCells() / 2;
    }

    public long rank(int slot) {
        int fault = slotFault(slot);
        if (fault < 0) return fault;
        return sweep.rankOf(yard, slots[slot]);
    }

    public int brick(int slot, int c) {
        if (!isSlot(slot) || !yard.isOpen(c)) return BAD;
        return slots[slot].held ? slots[slot].on[c] : NONE;
    }

    public int cheapest(int slot) {
        if (!isSlot(slot)) return BAD;
        long sum = sweep.leastCost(yard);
        if (sum >= Sweep.NEVER) return NONE;
        sweep.layCheapest(yard, slots[slot]);
        return (int) sum;
    }

    public int cost(int slot) {
        int fault = slotFault(slot);
        return fault < 0 ? fault : slots[slot].sumOfPrices(yard);
    }

    public int keep(int from, int to) {
        if (!isSlot(from) || !isSlot(to)) return BAD;
        if (!slots[from].held) return NONE;
        slots[to].take(slots[from]);
        return 1;
    }

    public int bricks(int slot, int sheet, int lane) {
        if (!isSlot(slot) || !isSheet(sheet) || lane != BYTES && lane != INTS) return BAD;
        int fault = sheetFault(sheet, lane);
        if (fault < 0) return fault;
        return slots[slot].takeBricks(yard, sheets[sheet]) ? 1 : NOT;
    }

    public int most() {
        return match.find(yard);
    }

    public int bar(int side, int what) {
        if (side != 0 && side != 1 || what != 0 && what != 1) return BAD;
        match.markBar(yard, side == 0);
        return match.marked(yard, what == 0 ? 2 : 1);
    }

    public int bars(int side, int c) {
        if (side != 0 && side != 1 || !yard.isOpen(c)) return BAD;
        match.markBar(yard, side == 0);
        return match.marks[c];
    }

    // ---- 3 heights, lines, rings

    public int whole() {
        return bit(shape.isWhole(yard));
    }

    public int height(int slot, int x, int y) {
        if (!isSlot(slot) || !yard.isCorner(x, y)) return HEIGHT_FAULTS + BAD;
        int fault = wholeFault(slot, slot);
        if (fault < 0) return HEIGHT_FAULTS + fault;
        heights.measure(yard, slots[slot], heights.first);
        return heights.first[y * CORNERS_IN_ROW + x];
    }

    public int turn(int slot, int x, int y) {
        if (!isSlot(slot) || x < 0 || x > yard.w || y < 0 || y > yard.h) return BAD;
        int fault = wholeFault(slot, slot);
        if (fault < 0) return fault;
        int way = heights.wayOfTurn(yard, slots[slot], x, y);
        if (way < 0) return NOT;
        heights.makeTurn(yard, slots[slot], x, y);
        return way;
    }

    public int turns(int slot, int up) {
        if (!isSlot(slot) || up != 0 && up != 1) return BAD;
        int fault = wholeFault(slot, slot);
        return fault < 0 ? fault : heights.turnsOfWay(yard, slots[slot], up);
    }

    public int settle(int slot, int up) {
        if (!isSlot(slot) || up != 0 && up != 1) return BAD;
        int fault = wholeFault(slot, slot);
        return fault < 0 ? fault : heights.turnAll(yard, slots[slot], up);
    }

    public int far(int a, int b) {
        int fault = wholeFault(a, b);
        return fault < 0 ? fault : heights.distance(yard, slots[a], slots[b]);
    }

    public int toward(int a, int b) {
        int fault = wholeFault(a, b);
        if (fault < 0) return fault;
        int corner = heights.turnToward(yard, slots[a], slots[b]);
        return corner < 0 ? NOT : corner;
    }

    public int lines(int slot) {
        int fault = slotFault(slot);
        return fault < 0 ? fault : slots[slot].linesNotCrossed(yard);
    }

    public long sound() {
        return crossing.countSound(yard);
    }

    public int rings(int a, int b) {
        int fault = slotsFault(a, b);
        return fault < 0 ? fault : rounds.trace(yard, slots[a], slots[b]);
    }

    public int ring(int a, int b, int i) {
        int fault = ringFault(a, b, i);
        return fault < 0 ? fault : rounds.sizes[i];
    }

    public int wind(int a, int b, int i) {
        int fault = ringFault(a, b, i);
        if (fault < 0) return fault;
        rounds.takeOver(yard, slots[a], slots[b], i);
        return rounds.sizes[i] / 2;
    }

    // ---- 4 sheets

    public int sheet(int sheet, int lane, int n) {
        if (!isSheet(sheet) || !isLane(lane) || n > MOST_ITEMS) return BAD;
        if (n < 0) return SIZE;
        sheets[sheet].start(lane, n);
        return n;
    }

    public int drop(int sheet) {
        if (!isSheet(sheet)) return BAD;
        if (!sheets[sheet].held) return NULL;
        sheets[sheet].held = false;
        return sheets[sheet].size;
    }

    public int item(int sheet, int lane, int i, int v) {
        if (!isSheet(sheet) || !isLane(lane)) return BAD;
        int fault = sheetFault(sheet, lane);
        if (fault < 0) return fault;
        if (i < 0 || i >= sheets[sheet].size) return INDEX;
        sheets[sheet].put(i, v);
        return 1;
    }

    public int copy(int from, int i, int to, int j, int n) {
        if (!isSheet(from) || !isSheet(to)) return BAD;
        Sheet source = sheets[from];
        Sheet target = sheets[to];
        if (!source.held || !target.held) return NULL;
        if (source.lane != target.lane) return CAST;
        if (!source.hasStretch(i, n) || !target.hasStretch(j, n)) return INDEX;
        System.arraycopy(source.items, i, target.items, j, n);
        return n;
    }

    // ---- what several calls share

    private static int bit(boolean is) {
        return is ? 1 : 0;
    }

    private static boolean isSlot(int slot) {
        return slot >= 0 && slot < MOST_SLOTS;
    }

    private static boolean isSheet(int sheet) {
        return sheet >= 0 && sheet < MOST_SHEETS;
    }

    private static boolean isLane(int lane) {
        return lane >= BOOLEANS && lane <= INTS;
    }

    private void startYard(int w, int h) {
        yard.start(w, h);
        yardChanged();
    }

    private boolean changeCell(int c, boolean isOpen) {
        boolean was = yard.open[c];
        if (was != isOpen) {
            yard.change(c, isOpen);
            yardChanged();
        }
        return was;
    }

    private void yardChanged() {
        sweep.forget();
        for (int i = 0; i < MOST_SLOTS; i++) slots[i].held = false;
    }

    private int heldSlots() {
        int n = 0;
        for (int i = 0; i < MOST_SLOTS; i++) n += bit(slots[i].held);
        return n;
    }

    private int slotFault(int slot) {
        return slotsFault(slot, slot);
    }

    private int slotsFault(int a, int b) {
        if (!isSlot(a) || !isSlot(b)) return BAD;
        return slots[a].held && slots[b].held ? 0 : NONE;
    }

    private int wholeFault(int a, int b) {
        int fault = slotsFault(a, b);
        if (fault < 0) return fault;
        return shape.isWhole(yard) ? 0 : NOT;
    }

    /** No ring is ever numbered below 0, so that is BAD even where a slot's paving is missing. */
    private int ringFault(int a, int b, int i) {
        if (i < 0) return BAD;
        int fault = slotsFault(a, b);
        if (fault < 0) return fault;
        return i < rounds.trace(yard, slots[a], slots[b]) ? 0 : BAD;
    }

    private int sheetFault(int sheet, int lane) {
        if (!sheets[sheet].held) return NULL;
        return sheets[sheet].lane == lane ? 0 : CAST;
    }

    // ---- the classes inside

    /** The cells, and what is wanted and asked for each brick. */
    private static final class Yard {
        int w;
        int h;
        final boolean[] open = new boolean[MOST_CELLS];
        final int[] want = new int[MOST_BRICKS];
        final int[] price = new int[MOST_BRICKS];

        Yard() {
            w = 4;
            h = 4;
            for (int c = 0; c < MOST_CELLS; c++) open[c] = true;
        }

        void start(int wide, int high) {
            w = wide;
            h = high;
            for (int c = 0; c < MOST_CELLS; c++) open[c] = true;
            Arrays.fill(want, FREE);
            Arrays.fill(price, 0);
        }

        void change(int c, boolean isOpen) {
            open[c] = isOpen;
            for (int k = 0; k < 4; k++) {
                int b = brickOn(c, k);
                if (b < 0) continue;
                want[b] = FREE;
                price[b] = 0;
            }
        }

        /** The brick that would lie on c, k telling the side (0 .. 3); -1, if it would begin beyond. */
        int brickOn(int c, int k) {
            switch (k) {
                case 0: return row(c) > 0 ? 2 * (c - w) + 1 : -1;
                case 1: return column(c) > 0 ? 2 * (c - 1) : -1;
                case 2: return 2 * c;
                default: return 2 * c + 1;
            }
        }

        int cells() {
            return w * h;
        }

        int column(int c) {
            return c % w;
        }

        int row(int c) {
            return c / w;
        }

        boolean isDark(int c) {
            return (column(c) + row(c) & 1) == 0;
        }

        boolean isCell(int c) {
            return c >= 0 && c < w * h;
        }

        boolean isOpen(int c) {
            return isCell(c) && open[c];
        }

        /** The open cell at x, y; -1, if it is closed or beyond. */
        int openAt(int x, int y) {
            if (x < 0 || x >= w || y < 0 || y >= h) return -1;
            int c = y * w + x;
            return open[c] ? c : -1;
        }

        /** The open cell beside c, k telling the side (0 .. 3); -1, if there is none. */
        int beside(int c, int k) {
            int x = column(c);
            int y = row(c);
            switch (k) {
                case 0: return openAt(x, y - 1);
                case 1: return openAt(x - 1, y);
                case 2: return openAt(x + 1, y);
                default: return openAt(x, y + 1);
            }
        }

        /** The cell that a brick lies on beside its first one; -1, if that is closed or beyond. */
        int secondCell(int b) {
            int x = column(b / 2);
            int y = row(b / 2);
            return b % 2 == 0 ? openAt(x + 1, y) : openAt(x, y + 1);
        }

        boolean stands(int b) {
            return b >= 0 && b < 2 * w * h && open[b / 2] && secondCell(b) >= 0;
        }

        boolean isCorner(int x, int y) {
            return openAt(x - 1, y - 1) >= 0 || openAt(x, y - 1) >= 0 || openAt(x - 1, y) >= 0 || openAt(x, y) >= 0;
        }

        int openCells() {
            int n = 0;
            for (int c = 0; c < w * h; c++) n += bit(open[c]);
            return n;
        }

        int darkCells() {
            int n = 0;
            for (int c = 0; c < w * h; c++) n += bit(open[c] && isDark(c));
            return n;
        }

        int standingBricks() {
            int n = 0;
            for (int b = 0; b < 2 * w * h; b++) n += bit(stands(b));
            return n;
        }

        int wantedBricks(int how) {
            int n = 0;
            for (int b = 0; b < 2 * w * h; b++) n += bit(want[b] == how);
            return n;
        }
    }

    /** What has been typed, and the yard that it tells. */
    private static final class Tape {
        final int[] typed = new int[MOST_TYPED];
        final boolean[] told = new boolean[MOST_CELLS];
        int size;
        int wide;
        int high;

        static int byteAt(long w, int k) {
            return (int) (w >>> 8 * k & 255);
        }

        boolean canType(long w, int n) {
            for (int k = 0; k < n; k++) {
                int b = byteAt(w, k);
                if (b < 32 || b > 126) return false;
            }
            return true;
        }

        int append(long w, int n) {
            for (int k = n - 1; k >= 0; k--) typed[size++] = byteAt(w, k);
            return size;
        }

        boolean isOpenAt(int x, int y) {
            return told[y * LONGEST + x];
        }

        /** 0, or a fault; blanks keep their places, so that a fault tells where the byte stands on the tape. */
        int parse() {
            int rows = 0;
            int col = 0;
            wide = LONGEST;
            for (int k = 0; k < size; k++) {
                int b = typed[k];
                if (b == ' ') continue;
                if ((b == '.' || b == '#') && col < wide) {
                    told[rows * LONGEST + col] = b == '.';
                    col++;
                } else if (b == ';' && isRowEnd(rows, col) && rows < LONGEST - 1) {
                    wide = col;
                    rows++;
                    col = 0;
                } else {
                    return FAULTS - k;
                }
            }
            if (!isRowEnd(rows, col)) return FAULTS - size;
            wide = col;
            high = rows + 1;
            return 0;
        }

        /** Only the first row may end where it likes. */
        boolean isRowEnd(int rows, int col) {
            return rows == 0 ? col > 0 : col == wide;
        }
    }

    /** A paving, told by the brick on each open cell. */
    private static final class Paving {
        boolean held;
        final int[] on = new int[MOST_CELLS];

        void put(Yard yard, int b) {
            on[b / 2] = b;
            int second = yard.secondCell(b);
            if (second >= 0) on[second] = b;
        }

        void take(Paving from) {
            held = true;
            System.arraycopy(from.on, 0, on, 0, MOST_CELLS);
        }

        /** Nothing is laid before all bricks are known to fit: a sheet that is no paving leaves the slot alone. */
        boolean takeBricks(Yard yard, Sheet sheet) {
            long covered = 0;
            for (int i = 0; i < sheet.size; i++) {
                int b = sheet.items[i];
                if (!yard.stands(b)) return false;
                long both = 1L << b / 2 | 1L << yard.secondCell(b);
                if ((covered & both) != 0) return false;
                covered |= both;
            }
            if (2 * sheet.size != yard.openCells()) return false;
            for (int i = 0; i < sheet.size; i++) put(yard, sheet.items[i]);
            held = true;
            return true;
        }

        boolean startsAt(Yard yard, int c) {
            return yard.open[c] && on[c] / 2 == c;
        }

        int sumOfPrices(Yard yard) {
            int sum = 0;
            for (int c = 0; c < yard.cells(); c++) {
                if (startsAt(yard, c)) sum += yard.price[on[c]];
            }
            return sum;
        }

        int linesNotCrossed(Yard yard) {
            int bits = (1 << yard.w) - 2;
            for (int c = 0; c < yard.cells(); c++) {
                if (startsAt(yard, c) && on[c] % 2 == 0) bits &= ~(2 << yard.column(c));
            }
            return bits;
        }
    }

    /**
     * Counted pavings, cell by cell. A mask has a bit for each column: whether the next cell of that
     * column is covered by a brick that has been laid already. The table has, for each cell and mask,
     * in how many ways (or how cheaply) the cells from there on can be paved.
     */
    private static final class Sweep {
        static final long NEVER = 1L << 40;
        static final int NOTHING = 0, WAYS = 1, COSTS = 2;

        final long[] table = new long[(MOST_CELLS + 1) * MASKS];
        final long[] shares = new long[MOST_BRICKS];
        final boolean[] fits = new boolean[MOST_BRICKS];
        long[] now = new long[MASKS];
        long[] next = new long[MASKS];
        int holds;
        boolean holdsShares;

        void forget() {
            holds = NOTHING;
            holdsShares = false;
        }

        long total(Yard yard) {
            fillWays(yard);
            return table[0];
        }

        long leastCost(Yard yard) {
            fillCosts(yard);
            return table[0];
        }

        /** A brick that must be leaves no other a place on its cells: of two such on one cell neither fits. */
        void findFits(Yard yard) {
            int n = 2 * yard.cells();
            for (int b = 0; b < n; b++) fits[b] = yard.stands(b) && yard.want[b] != MAY_NOT;
            for (int b = 0; b < n; b++) {
                if (yard.want[b] != MUST) continue;
                dropOthers(yard, b / 2, b);
                dropOthers(yard, yard.secondCell(b), b);
            }
        }

        void dropOthers(Yard yard, int c, int must) {
            if (c < 0) return;
            for (int k = 0; k < 4; k++) {
                int b = yard.brickOn(c, k);
                if (b >= 0 && b != must) fits[b] = false;
            }
        }

        void fillWays(Yard yard) {
            if (holds == WAYS) return;
            findFits(yard);
            startTable(yard, 1, 0);
            for (int c = yard.cells() - 1; c >= 0; c--) fillWaysAt(yard, c);
            holds = WAYS;
        }

        void fillCosts(Yard yard) {
            if (holds == COSTS) return;
            findFits(yard);
            startTable(yard, 0, NEVER);
            for (int c = yard.cells() - 1; c >= 0; c--) fillCostsAt(yard, c);
            holds = COSTS;
        }

        void startTable(Yard yard, long atEnd, long elsewhere) {
            int end = yard.cells() * MASKS;
            for (int mask = 0; mask < 1 << yard.w; mask++) table[end + mask] = elsewhere;
            table[end] = atEnd;
        }

        void fillWaysAt(Yard yard, int c) {
            int here = c * MASKS;
            int ahead = here + MASKS;
            int bit = 1 << yard.column(c);
            boolean east = fits[2 * c];
            boolean south = fits[2 * c + 1];
            for (int mask = 0; mask < 1 << yard.w; mask++) {
                long n = 0;
                if (!yard.open[c]) {
                    if ((mask & bit) == 0) n = table[ahead + mask];
                } else if ((mask & bit) != 0) {
                    n = table[ahead + mask - bit];
                } else {
                    if (east && (mask & 2 * bit) == 0) n = table[ahead + mask + 2 * bit];
                    if (south) n += table[ahead + mask + bit];
                }
                table[here + mask] = n;
            }
        }

        void fillCostsAt(Yard yard, int c) {
            int here = c * MASKS;
            int ahead = here + MASKS;
            int bit = 1 << yard.column(c);
            for (int mask = 0; mask < 1 << yard.w; mask++) {
                long least = NEVER;
                if (!yard.open[c]) {
                    if ((mask & bit) == 0) least = table[ahead + mask];
                } else if ((mask & bit) != 0) {
                    least = table[ahead + mask - bit];
                } else {
                    least = Math.min(costEast(yard, c, mask), costSouth(yard, c, mask));
                }
                table[here + mask] = least;
            }
        }

        boolean canEast(Yard yard, int c, int mask) {
            return fits[2 * c] && (mask & 2 << yard.column(c)) == 0;
        }

        long costEast(Yard yard, int c, int mask) {
            if (!canEast(yard, c, mask)) return NEVER;
            return Math.min(NEVER, yard.price[2 * c] + table[(c + 1) * MASKS + mask + (2 << yard.column(c))]);
        }

        long costSouth(Yard yard, int c, int mask) {
            if (!fits[2 * c + 1]) return NEVER;
            return Math.min(NEVER, yard.price[2 * c + 1] + table[(c + 1) * MASKS + mask + (1 << yard.column(c))]);
        }

        /** How many pavings come with a brick to the east here: all these are ahead of those without. */
        long waysEast(Yard yard, int c, int mask) {
            if (!canEast(yard, c, mask)) return 0;
            return table[(c + 1) * MASKS + mask + (2 << yard.column(c))];
        }

        void layByRank(Yard yard, long rank, Paving to) {
            fillWays(yard);
            long left = rank;
            int mask = 0;
            for (int c = 0; c < yard.cells(); c++) {
                if (isBare(yard, c, mask)) {
                    long ahead = waysEast(yard, c, mask);
                    boolean east = left < ahead;
                    if (!east) left -= ahead;
                    to.put(yard, east ? 2 * c : 2 * c + 1);
                    mask = maskBehind(yard, c, mask, east);
                } else {
                    mask &= ~(1 << yard.column(c));
                }
            }
            to.held = true;
        }

        void layCheapest(Yard yard, Paving to) {
            fillCosts(yard);
            int mask = 0;
            for (int c = 0; c < yard.cells(); c++) {
                if (isBare(yard, c, mask)) {
                    boolean east = costEast(yard, c, mask) <= costSouth(yard, c, mask);
                    to.put(yard, east ? 2 * c : 2 * c + 1);
                    mask = maskBehind(yard, c, mask, east);
                } else {
                    mask &= ~(1 << yard.column(c));
                }
            }
            to.held = true;
        }

        static boolean isBare(Yard yard, int c, int mask) {
            return yard.open[c] && (mask & 1 << yard.column(c)) == 0;
        }

        static int maskBehind(Yard yard, int c, int mask, boolean east) {
            return mask | (east ? 2 : 1) << yard.column(c);
        }

        /** NOT, if the paving is not counted. */
        long rankOf(Yard yard, Paving paving) {
            fillWays(yard);
            long ahead = 0;
            int mask = 0;
            for (int c = 0; c < yard.cells(); c++) {
                if (isBare(yard, c, mask)) {
                    int b = paving.on[c];
                    if (!fits[b]) return NOT;
                    boolean east = b % 2 == 0;
                    if (!east) ahead += waysEast(yard, c, mask);
                    mask = maskBehind(yard, c, mask, east);
                } else {
                    mask &= ~(1 << yard.column(c));
                }
            }
            return ahead;
        }

        /** All at once: ways to come to each place and mask, times the ways to go on from it with a brick. */
        void fillShares(Yard yard) {
            if (holdsShares) return;
            fillWays(yard);
            Arrays.fill(shares, 0);
            Arrays.fill(now, 0);
            now[0] = 1;
            for (int c = 0; c < yard.cells(); c++) {
                Arrays.fill(next, 0);
                shareAt(yard, c);
                long[] used = now;
                now = next;
                next = used;
            }
            holdsShares = true;
        }

        void shareAt(Yard yard, int c) {
            int ahead = (c + 1) * MASKS;
            int bit = 1 << yard.column(c);
            for (int mask = 0; mask < 1 << yard.w; mask++) {
                long ways = now[mask];
                if (ways == 0) continue;
                if (!isBare(yard, c, mask)) {
                    next[mask & ~bit] += ways;
                    continue;
                }
                if (canEast(yard, c, mask)) {
                    next[mask + 2 * bit] += ways;
                    shares[2 * c] += ways * table[ahead + mask + 2 * bit];
                }
                if (fits[2 * c + 1]) {
                    next[mask + bit] += ways;
                    shares[2 * c + 1] += ways * table[ahead + mask + bit];
                }
            }
        }

        int bricksWithShare(Yard yard, long due) {
            int n = 0;
            for (int b = 0; b < 2 * yard.cells(); b++) n += bit(yard.stands(b) && shares[b] == due);
            return n;
        }
    }

    /** Sound pavings, column by column: at a line the mask tells the bricks that cross it. */
    private static final class Crossing {
        long[] now = new long[MASKS];
        long[] next = new long[MASKS];

        long countSound(Yard yard) {
            Arrays.fill(now, 0);
            now[0] = 1;
            for (int x = 0; x < yard.w; x++) {
                if (x > 0) now[0] = 0;
                for (int y = 0; y < yard.h; y++) {
                    Arrays.fill(next, 0);
                    pass(yard, x, y);
                    long[] used = now;
                    now = next;
                    next = used;
                }
            }
            return now[0];
        }

        void pass(Yard yard, int x, int y) {
            int bit = 1 << y;
            boolean open = yard.openAt(x, y) >= 0;
            boolean east = open && yard.openAt(x + 1, y) >= 0;
            boolean south = open && yard.openAt(x, y + 1) >= 0;
            for (int mask = 0; mask < 1 << yard.h; mask++) {
                long ways = now[mask];
                if (ways == 0) continue;
                if (!open || (mask & bit) != 0) {
                    next[mask & ~bit] += ways;
                } else {
                    if (east) next[mask + bit] += ways;
                    if (south && (mask & 2 * bit) == 0) next[mask + 2 * bit] += ways;
                }
            }
        }
    }

    /**
     * Places reached from one another, each once, in the order in which they were reached. It grows
     * while it is gone through, so that a loop over it has MOST_REACHED as its own bound.
     */
    private static final class Wave {
        final boolean[] seen = new boolean[MOST_REACHED];
        final int[] places = new int[MOST_REACHED];
        int size;

        void clear() {
            size = 0;
            for (int i = 0; i < MOST_REACHED; i++) seen[i] = false;
        }

        boolean reach(int place) {
            if (place < 0 || place >= MOST_REACHED || seen[place]) return false;
            seen[place] = true;
            places[size++] = place;
            return true;
        }
    }

    /** As many bricks as can lie beside one another, and the cells that bar more. */
    private static final class Match {
        final int[] mate = new int[MOST_CELLS];
        final int[] from = new int[MOST_CELLS];
        final int[] marks = new int[MOST_CELLS];
        final Wave wave = new Wave();

        int find(Yard yard) {
            int n = 0;
            Arrays.fill(mate, -1);
            for (int c = 0; c < yard.cells(); c++) {
                if (yard.open[c] && yard.isDark(c)) n += bit(findMateFor(yard, c));
            }
            return n;
        }

        /** Looks for a path from a bare dark cell to a bare light one on which every second step is a brick. */
        boolean findMateFor(Yard yard, int start) {
            Arrays.fill(from, -1);
            wave.clear();
            wave.reach(start);
            for (int i = 0; i < MOST_REACHED && i < wave.size; i++) {
                int dark = wave.places[i];
                for (int k = 0; k < 4; k++) {
                    int light = yard.beside(dark, k);
                    if (light < 0 || from[light] >= 0) continue;
                    from[light] = dark;
                    if (mate[light] < 0) {
                        swapPath(light);
                        return true;
                    }
                    wave.reach(mate[light]);
                }
            }
            return false;
        }

        void swapPath(int end) {
            int light = end;
            for (int step = 0; step < MOST_CELLS && light >= 0; step++) {
                int dark = from[light];
                if (dark < 0) return;
                int before = mate[dark];
                mate[dark] = light;
                mate[light] = dark;
                light = before;
            }
        }

        /**
         * Any one heap of the most bricks will do: a cell is bare in another such heap, if every second
         * step of a path to it from a cell bare in this one is a brick of this one.
         */
        void markBar(Yard yard, boolean dark) {
            find(yard);
            Arrays.fill(marks, 0);
            wave.clear();
            for (int c = 0; c < yard.cells(); c++) {
                if (yard.open[c] && yard.isDark(c) == dark && mate[c] < 0) wave.reach(c);
            }
            for (int i = 0; i < MOST_REACHED && i < wave.size; i++) {
                int doubtful = wave.places[i];
                marks[doubtful] = 2;
                for (int k = 0; k < 4; k++) {
                    int beside = yard.beside(doubtful, k);
                    if (beside < 0) continue;
                    marks[beside] = 1;
                    wave.reach(mate[beside]);
                }
            }
        }

        int marked(Yard yard, int mark) {
            int n = 0;
            for (int c = 0; c < yard.cells(); c++) n += bit(marks[c] == mark);
            return n;
        }
    }

    /** Whether a yard is whole. */
    private static final class Shape {
        final Wave wave = new Wave();

        boolean isWhole(Yard yard) {
            return openIsOne(yard) && closedIsOne(yard) && !touchesByCorner(yard);
        }

        boolean openIsOne(Yard yard) {
            wave.clear();
            for (int c = 0; c < yard.cells() && wave.size == 0; c++) {
                if (yard.open[c]) wave.reach(c);
            }
            for (int i = 0; i < MOST_REACHED && i < wave.size; i++) {
                for (int k = 0; k < 4; k++) wave.reach(yard.beside(wave.places[i], k));
            }
            return wave.size > 0 && wave.size == yard.openCells();
        }

        /** The frame moves the yard by one to the east and south; the frame's own corner 0 is always closed. */
        boolean closedIsOne(Yard yard) {
            wave.clear();
            wave.reach(0);
            for (int i = 0; i < MOST_REACHED && i < wave.size; i++) {
                for (int k = 0; k < 9; k++) {
                    int x = wave.places[i] % FRAME_IN_ROW + k % 3 - 1;
                    int y = wave.places[i] / FRAME_IN_ROW + k / 3 - 1;
                    if (isClosed(yard, x, y)) wave.reach(y * FRAME_IN_ROW + x);
                }
            }
            return wave.size == (yard.w + 2) * (yard.h + 2) - yard.openCells();
        }

        static boolean isClosed(Yard yard, int x, int y) {
            if (x < 0 || x > yard.w + 1 || y < 0 || y > yard.h + 1) return false;
            return yard.openAt(x - 1, y - 1) < 0;
        }

        boolean touchesByCorner(Yard yard) {
            for (int y = 1; y < yard.h; y++) {
                for (int x = 1; x < yard.w; x++) {
                    boolean northWest = yard.openAt(x - 1, y - 1) >= 0;
                    boolean northEast = yard.openAt(x, y - 1) >= 0;
                    boolean southWest = yard.openAt(x - 1, y) >= 0;
                    boolean southEast = yard.openAt(x, y) >= 0;
                    if (northWest == southEast && northEast == southWest && northWest != northEast) return true;
                }
            }
            return false;
        }
    }

    /** Heights and turns of pavings of a whole yard. */
    private static final class Heights {
        final int[] first = new int[MOST_CORNERS];
        final int[] second = new int[MOST_CORNERS];
        final Wave wave = new Wave();

        /** Corners of no open cell stay 0, so that they count for nothing between two pavings. */
        void measure(Yard yard, Paving paving, int[] to) {
            Arrays.fill(to, 0);
            wave.clear();
            for (int i = 0; i < MOST_CORNERS && wave.size == 0; i++) {
                if (yard.isCorner(i % CORNERS_IN_ROW, i / CORNERS_IN_ROW)) wave.reach(i);
            }
            for (int i = 0; i < MOST_REACHED && i < wave.size; i++) {
                int at = wave.places[i];
                for (int k = 0; k < 4; k++) {
                    int step = stepFrom(yard, paving, at % CORNERS_IN_ROW, at / CORNERS_IN_ROW, k);
                    int there = cornerBeside(at, k);
                    if (step == 0 || there < 0 || there >= MOST_CORNERS) continue;
                    if (wave.reach(there)) to[there] = to[at] + step;
                }
            }
        }

        static int cornerBeside(int at, int k) {
            switch (k) {
                case 0: return at + 1;
                case 1: return at + CORNERS_IN_ROW;
                case 2: return at - 1;
                default: return at - CORNERS_IN_ROW;
            }
        }

        /** What is added on the way east, south, west or north (k 0 .. 3); 0, if there is no such way. */
        static int stepFrom(Yard yard, Paving paving, int x, int y, int k) {
            switch (k) {
                case 0: return stepEast(yard, paving, x, y);
                case 1: return stepSouth(yard, paving, x, y);
                case 2: return -stepEast(yard, paving, x - 1, y);
                default: return -stepSouth(yard, paving, x, y - 1);
            }
        }

        static int stepEast(Yard yard, Paving paving, int x, int y) {
            if (!canGoBetween(paving, yard.openAt(x, y - 1), yard.openAt(x, y))) return 0;
            return (x + y & 1) == 0 ? -1 : 1;
        }

        static int stepSouth(Yard yard, Paving paving, int x, int y) {
            if (!canGoBetween(paving, yard.openAt(x - 1, y), yard.openAt(x, y))) return 0;
            return (x + y & 1) == 0 ? 1 : -1;
        }

        static boolean canGoBetween(Paving paving, int one, int other) {
            if (one < 0 || other < 0) return one >= 0 || other >= 0;
            return paving.on[one] != paving.on[other];
        }

        /** 1 for a turn up at a corner, 0 for one down, -1 for none. */
        int wayOfTurn(Yard yard, Paving paving, int x, int y) {
            int northWest = yard.openAt(x - 1, y - 1);
            int northEast = yard.openAt(x, y - 1);
            int southWest = yard.openAt(x - 1, y);
            int southEast = yard.openAt(x, y);
            if (northWest < 0 || northEast < 0 || southWest < 0 || southEast < 0) return -1;
            int[] on = paving.on;
            // Which way is up follows from the signs of the steps at this corner alone.
            if (on[northWest] == on[northEast] && on[southWest] == on[southEast]) return x + y & 1;
            if (on[northWest] == on[southWest] && on[northEast] == on[southEast]) return 1 - (x + y & 1);
            return -1;
        }

        /** Only where wayOfTurn has told a turn. */
        void makeTurn(Yard yard, Paving paving, int x, int y) {
            int northWest = yard.openAt(x - 1, y - 1);
            int northEast = yard.openAt(x, y - 1);
            int southWest = yard.openAt(x - 1, y);
            if (northWest < 0 || northEast < 0 || southWest < 0) return;
            if (paving.on[northWest] == paving.on[northEast]) {
                paving.put(yard, 2 * northWest + 1);
                paving.put(yard, 2 * northEast + 1);
            } else {
                paving.put(yard, 2 * northWest);
                paving.put(yard, 2 * southWest);
            }
        }

        int turnsOfWay(Yard yard, Paving paving, int way) {
            int n = 0;
            for (int y = 1; y < yard.h; y++) {
                for (int x = 1; x < yard.w; x++) n += bit(wayOfTurn(yard, paving, x, y) == way);
            }
            return n;
        }

        /** Each round makes at least one turn of the few hundred that there can be, or is the last. */
        int turnAll(Yard yard, Paving paving, int way) {
            int n = 0;
            for (int round = 0; round < 10000; round++) {
                int before = n;
                for (int y = 1; y < yard.h; y++) {
                    for (int x = 1; x < yard.w; x++) {
                        if (wayOfTurn(yard, paving, x, y) != way) continue;
                        makeTurn(yard, paving, x, y);
                        n++;
                    }
                }
                if (n == before) break;
            }
            return n;
        }

        /** A turn moves one height by 4, and some turn brings heights that differ nearer to each other. */
        int distance(Yard yard, Paving a, Paving b) {
            measure(yard, a, first);
            measure(yard, b, second);
            int sum = 0;
            for (int i = 0; i < MOST_CORNERS; i++) sum += Math.abs(first[i] - second[i]);
            return sum / 4;
        }

        /** 16 y and x of the turn that is done, -1 if there is none. */
        int turnToward(Yard yard, Paving a, Paving b) {
            measure(yard, a, first);
            measure(yard, b, second);
            for (int y = 1; y < yard.h; y++) {
                for (int x = 1; x < yard.w; x++) {
                    int way = wayOfTurn(yard, a, x, y);
                    int more = second[y * CORNERS_IN_ROW + x] - first[y * CORNERS_IN_ROW + x];
                    if (way == 1 && more > 0 || way == 0 && more < 0) {
                        makeTurn(yard, a, x, y);
                        return 16 * y + x;
                    }
                }
            }
            return -1;
        }
    }

    /** Rings of two pavings. */
    private static final class Rings {
        final int[] sizes = new int[MOST_CELLS];
        final int[] ringOf = new int[MOST_CELLS];

        int trace(Yard yard, Paving a, Paving b) {
            int n = 0;
            Arrays.fill(ringOf, -1);
            for (int c = 0; c < yard.cells(); c++) {
                if (!yard.open[c] || ringOf[c] >= 0 || a.on[c] == b.on[c]) continue;
                sizes[n] = goRound(yard, a, b, c, n);
                n++;
            }
            return n;
        }

        int goRound(Yard yard, Paving a, Paving b, int start, int number) {
            int n = 0;
            int at = start;
            for (int step = 0; step < MOST_CELLS && at >= 0 && ringOf[at] < 0; step++) {
                ringOf[at] = number;
                n++;
                at = otherEnd(yard, step % 2 == 0 ? a.on[at] : b.on[at], at);
            }
            return n;
        }

        static int otherEnd(Yard yard, int b, int c) {
            return b / 2 == c ? yard.secondCell(b) : b / 2;
        }

        void takeOver(Yard yard, Paving a, Paving b, int number) {
            for (int c = 0; c < yard.cells(); c++) {
                if (ringOf[c] == number) a.on[c] = b.on[c];
            }
        }
    }

    /** A row of a lane; the row of ints has room for items of every lane. */
    private static final class Sheet {
        boolean held;
        int lane;
        int size;
        final int[] items = new int[MOST_ITEMS];

        void start(int newLane, int n) {
            held = true;
            lane = newLane;
            size = n;
            Arrays.fill(items, 0);
        }

        void put(int i, int v) {
            if (lane == BOOLEANS) items[i] = bit(v != 0);
            else items[i] = lane == BYTES ? (byte) v : v;
        }

        boolean hasStretch(int i, int n) {
            return i >= 0 && n >= 0 && n <= size && i <= size - n;
        }
    }
}
