import java.util.Arrays;
import java.util.Set;
import java.util.TreeSet;
import java.util.function.Supplier;
import java.util.function.ToLongFunction;

/**
 * The document's sentences that name a boundary case, promise by promise, each told with its words: calls at the
 * boundary and on both sides of it, calls with two faults at once, and that what is refused changes nothing.
 */
public final class EdgeTests {
    private static final int BAD = -1, NOT = -2, FULL = -3, NONE = -4, NULL = -11, CAST = -12, INDEX = -13, SIZE = -14;
    private static final int HBAD = -1001, HNOT = -1002, HNONE = -1004;
    private static final int MIN = Integer.MIN_VALUE, MAX = Integer.MAX_VALUE;
    private static final int[] OFF_FOUR = {MIN, -1, 4, MAX}, OFF_TWO = {MIN, -1, 2, MAX}, OFF_LANES = {MIN, -1, 3, MAX};
    private static final int[] NO_BRICKS = {MIN, -1, 0, 1, 4, 6, 7, 14, 22, 25, 27, 29, 30, 31, 32, 33, 128, MAX};
    private static final Set<Integer> promisesTold = new TreeSet<>();
    private static String sentence = "";
    private static int wrong = 0;
    private static int asked = 0;
    private static PavedYards y;

    private static final Start RICH = new Start("rich", EdgeTests::rich);
    private static final Start HOLED = new Start("holed", EdgeTests::holed);
    private static final Start STUCK = new Start("stuck", EdgeTests::stuck);

    public static void main(String[] args) {
        starts();
        promise1();
        promise2();
        promise3();
        promise4();
        promise5();
        promise6();
        promise7();
        promise8();
        promise9();
        promise10();
        promise11();
        promise12();
        promise13();
        promise14();
        promise15();
        promise16();
        promise17();
        promise18();
        promise19();
        promise20();
        promise21();
        promise22();
        promise23();
        promise24();
        promise25();
        promise26();
        promise27();
        promise28();
        promise29();
        promise30();
        promise31();
        promise32();
        promise33();
        promise34();
        promise35();
        promise36();
        promise37();
        promise38();
        sentence = "all promises have sentences here";
        due("promises told", promisesTold.size(), 38);
        System.out.println(asked + " answers asked, " + wrong + " wrong");
        if (wrong != 0) System.exit(1);
    }

    // ---- how a sentence is tested

    /** What is asked from here on stands for these words of a promise (or of a term that it uses). */
    private static void says(int promise, String words) {
        promisesTold.add(promise);
        sentence = "promise " + promise + ", '" + words + "'";
    }

    private static void due(String call, long got, long want) {
        asked++;
        if (got == want) return;
        wrong++;
        System.out.println(sentence + ": " + call + " answered " + got + ", due is " + want);
    }

    private static void dueText(String what, String got, String want) {
        asked++;
        if (got.equals(want)) return;
        wrong++;
        System.out.println(sentence + ": " + what + " is\n    " + got + "\n  due is\n    " + want);
    }

    /** A call that changes nothing, be it refused or not: all that can be seen behind it is as without it. */
    private static void stays(Start start, String call, ToLongFunction<PavedYards> made, long want) {
        PavedYards one = start.made.get();
        due(start.name + ": " + call, made.applyAsLong(one), want);
        dueText(start.name + " behind " + call, seen(one), start.seen());
    }

    /** A way to make an object whose state is known. */
    private static final class Start {
        final String name;
        final Supplier<PavedYards> made;
        private String seen = "";

        Start(String name, Supplier<PavedYards> made) {
            this.name = name;
            this.made = made;
        }

        String seen() {
            if (seen.isEmpty()) seen = EdgeTests.seen(made.get());
            return seen;
        }
    }

    /** Something of each kind that a call could change, in a yard that is whole; SLOT 2 is not COUNTED, SLOT 3 and SHEET 3 are empty. */
    private static PavedYards rich() {
        PavedYards one = new PavedYards();
        one.cell(0, false);
        one.cell(3, false);
        one.place(2, 4);
        one.want(24, 1);
        one.want(21, 2);
        one.price(2, 7);
        one.price(9, 999);
        one.place(0, 0);
        one.place(1, 1);
        addSheetsAndTape(one);
        return one;
    }

    /** A yard that is not whole and has two pavings, of which SLOTS 0 and 2 hold the first, SLOT 1 the other, SLOT 3 none. */
    private static PavedYards holed() {
        PavedYards one = new PavedYards();
        readText(one, "....;.##.;.##.;....");
        one.place(0, 0);
        one.place(1, 1);
        one.keep(0, 2);
        one.price(0, 3);
        addSheetsAndTape(one);
        return one;
    }

    /** As rich, but two BRICKS that MUST be lie on one cell: no PAVING is COUNTED. */
    private static PavedYards stuck() {
        PavedYards one = rich();
        one.want(8, 1);
        one.want(9, 1);
        return one;
    }

    private static void addSheetsAndTape(PavedYards one) {
        sheetOf(one, 0, 0, 1, 0, 0, 1);
        sheetOf(one, 1, 1, 0, 4, 8);
        sheetOf(one, 2, 2, 12, 2, 6, 0);
        typeText(one, ".#;..");
    }

    /** The start with some calls more. */
    private static Start and(Start start, String name, ToLongFunction<PavedYards> more) {
        return new Start(start.name + " and " + name, () -> {
            PavedYards one = start.made.get();
            more.applyAsLong(one);
            return one;
        });
    }

    private static int typeText(PavedYards one, String text) {
        int n = 0;
        for (int at = 0; at < text.length(); at += 8) {
            int end = Math.min(text.length(), at + 8);
            long w = 0;
            for (int k = at; k < end; k++) w = w << 8 | text.charAt(k);
            n = one.type(w, end - at);
        }
        return n;
    }

    private static int readText(PavedYards one, String text) {
        typeText(one, text);
        return one.read();
    }

    private static int sheetOf(PavedYards one, int sheet, int lane, int... items) {
        int n = one.sheet(sheet, lane, items.length);
        for (int i = 0; i < items.length; i++) one.item(sheet, lane, i, items[i]);
        return n;
    }

    private static PavedYards yardOf(String text) {
        PavedYards one = new PavedYards();
        readText(one, text);
        return one;
    }

    // ---- all that can be seen of an object (in some 300 calls, of the 512 that it has)

    private static String seen(PavedYards one) {
        StringBuilder all = new StringBuilder("count");
        for (int what = 0; what < 8; what++) all.append(' ').append(one.count(what));
        int cells = one.count(0) * one.count(1);
        all.append(", yard ").append(cellsOf(one)).append(", pavings ").append(one.pavings());
        for (int slot = 0; slot < 4; slot++) all.append(", slot ").append(slot).append(" rank ").append(one.rank(slot)).append(": ").append(bricksIn(one, slot));
        for (int b = 0; b < 2 * cells; b++) {
            int want = one.want(b, 0);
            int price = one.price(b, 0);
            if (want > 0 || price > 0) all.append(", brick ").append(b).append(" want ").append(want).append(" price ").append(price);
        }
        all.append(", tape ").append(one.type(32, 1)).append(' ').append(one.read()).append(' ').append(cellsOf(one));
        return all.append(sheetsOf(one)).toString();
    }

    private static String cellsOf(PavedYards one) {
        StringBuilder all = new StringBuilder();
        int w = one.count(0);
        int h = one.count(1);
        for (int c = 0; c < w * h; c++) {
            if (c > 0 && c % w == 0) all.append(';');
            all.append(one.bars(0, c) < 0 ? '#' : '.');
        }
        return all.toString();
    }

    /** The BRICKS of a SLOT; a cell whose BRICK does not lie on another cell, too, is told behind a !. */
    private static String bricksIn(PavedYards one, int slot) {
        StringBuilder all = new StringBuilder();
        int w = one.count(0);
        int[] on = new int[w * one.count(1)];
        for (int c = 0; c < on.length; c++) {
            on[c] = one.brick(slot, c);
            if (on[c] == NONE) return "none";
        }
        for (int c = 0; c < on.length; c++) {
            if (on[c] < 0) continue;
            int first = on[c] / 2;
            int second = on[c] % 2 == 0 ? first + 1 : first + w;
            boolean lies = second < on.length && on[first] == on[c] && on[second] == on[c] && (c == first || c == second);
            if (!lies) all.append('!').append(c).append(' ');
            else if (c == first) all.append(on[c]).append(' ');
        }
        return all.toString().trim();
    }

    /** What is on the tape would stand ahead of the texts that are read here, so it is read away first. */
    private static String sheetsOf(PavedYards one) {
        one.read();
        int[] lanes = new int[4];
        for (int s = 0; s < 4; s++) lanes[s] = laneOf(one, s);
        int spare = one.drop(3);
        String[] items = {"", "", "", spare < 0 ? "" : spare + " items"};
        for (int s = 0; s < 3; s++) {
            if (lanes[s] == 0) items[s] = booleansIn(one, s);
            else if (lanes[s] > 0) items[s] = numbersIn(one, s, lanes[s]);
        }
        StringBuilder all = new StringBuilder();
        for (int s = 0; s < 4; s++) all.append(", sheet ").append(s).append(" lane ").append(lanes[s]).append(": ").append(items[s]);
        for (int s = 0; s < 3; s++) all.append(' ').append(one.drop(s));
        return all.toString();
    }

    /** The lane in which a missing item is an INDEX; -1, if the SHEET holds nothing. */
    private static int laneOf(PavedYards one, int sheet) {
        for (int lane = 0; lane < 3; lane++) if (one.item(sheet, lane, -1, 0) == INDEX) return lane;
        return -1;
    }

    private static String booleansIn(PavedYards one, int sheet) {
        one.yard(8, 8);
        int n = one.lay(0, sheet, 0);
        StringBuilder all = new StringBuilder();
        for (int c = 0; c < Math.min(n, 8); c++) all.append(one.bars(0, c) < 0 ? '0' : '1');
        return all.toString();
    }

    /** Of the first four items those that are 0, 2 .. 12, as a yard with this BRICK alone tells; SHEET 3 is used for it. */
    private static String numbersIn(PavedYards one, int sheet, int lane) {
        String[] items = {"?", "?", "?", "?"};
        one.sheet(3, lane, 1);
        for (int b = 0; b <= 12; b += 2) {
            StringBuilder row = new StringBuilder("########");
            row.replace(b / 2, b / 2 + 2, "..");
            readText(one, row.toString());
            for (int i = 0; i < 4; i++) {
                if (items[i].equals("?") && one.copy(sheet, i, 3, 0, 1) == 1 && one.bricks(0, 3, lane) == 1) items[i] = "" + b;
            }
        }
        one.drop(3);
        return String.join(" ", items);
    }

    private static void starts() {
        sentence = "the states that the tests start from";
        dueText("rich", RICH.seen(), "count 4 4 14 7 20 1 1 3, yard #..#;....;....;...., pavings 6"
            + ", slot 0 rank 0: 2 8 12 16 20 24 28, slot 1 rank 1: 2 8 13 15 16 24 28, slot 2 rank -2: 2 8 12 17 19 21 23, slot 3 rank -4: none"
            + ", brick 2 want 0 price 7, brick 9 want 0 price 999, brick 21 want 2 price 0, brick 24 want 1 price 0, tape 6 3 .#;.."
            + ", sheet 0 lane 0: 1001, sheet 1 lane 1: 0 4 8 ?, sheet 2 lane 2: 12 2 6 0, sheet 3 lane -1:  4 3 4");
        dueText("holed", HOLED.seen(), "count 4 4 12 6 12 0 0 3, yard ....;.##.;.##.;...., pavings 2"
            + ", slot 0 rank 0: 0 4 9 15 24 28, slot 1 rank 1: 1 2 7 17 23 26, slot 2 rank 0: 0 4 9 15 24 28, slot 3 rank -4: none"
            + ", brick 0 want 0 price 3, tape 6 3 .#;.."
            + ", sheet 0 lane 0: 1001, sheet 1 lane 1: 0 4 8 ?, sheet 2 lane 2: 12 2 6 0, sheet 3 lane -1:  4 3 4");
        due("stuck: pavings()", stuck().pavings(), 0);
    }

    // ---- 1 the yard

    private static void promise1() {
        says(1, "Four by four open cells.");
        y = new PavedYards();
        dueText("the yard", cellsOf(y), "....;....;....;....");
        says(1, "SHEETS 0 .. 3 hold nothing (at first)");
        for (int s = 0; s < 4; s++) due("drop(" + s + ")", y.drop(s), NULL);
        says(1, "SLOTS 0 .. 3 hold a PAVING or none (at first)");
        for (int s = 0; s < 4; s++) due("rank(" + s + ")", y.rank(s), NONE);
        due("count(7)", y.count(7), 0);
        says(1, "MUST .. or MAY NOT be .. or neither (at first); PRICE of a BRICK: 0 .. 999 (0 at first)");
        int standing = 0;
        for (int b = 0; b < 32; b++) {
            int was = y.want(b, 0);
            if (was == BAD) continue;
            standing++;
            due("want(" + b + ", 0)", was, 0);
            due("price(" + b + ", 0)", y.price(b, 0), 0);
        }
        due("bricks that there are", standing, 24);
        says(1, "An object is used for at most 512 calls after it has been made: the last of them answers, too");
        y = new PavedYards();
        for (int call = 1; call < 512; call++) y.cell(call % 16, call <= 500);
        due("count(2) as call 512", y.count(2), 5);
        says(1, "an object is new: what another one holds does not show in it");
        String fresh = seen(new PavedYards());
        PavedYards other = rich();
        dueText("a new one beside another", seen(new PavedYards()), fresh);
        dueText("the other one", seen(other), RICH.seen());
    }

    private static void promise2() {
        says(2, "W wide, H high (1 .. 8 each) .. how many cells. BAD.");
        for (int w : new int[] {1, 2, 7, 8}) {
            for (int h : new int[] {1, 2, 7, 8}) {
                y = rich();
                due("yard(" + w + ", " + h + ")", y.yard(w, h), w * h);
                due("count(0)", y.count(0), w);
                due("count(1)", y.count(1), h);
                due("count(2)", y.count(2), w * h);
                due("the last cell", y.cell(w * h - 1, true), 1);
                due("beyond the last cell", y.cell(w * h, true), BAD);
            }
        }
        for (int off : new int[] {MIN, -1, 0, 9, MAX}) {
            stays(RICH, "yard(" + off + ", 1)", x -> x.yard(off, 1), BAD);
            stays(RICH, "yard(1, " + off + ")", x -> x.yard(1, off), BAD);
            stays(RICH, "yard(" + off + ", 8)", x -> x.yard(off, 8), BAD);
            stays(RICH, "yard(8, " + off + ")", x -> x.yard(8, off), BAD);
            stays(RICH, "yard(" + off + ", " + off + ")", x -> x.yard(off, off), BAD);
        }
        says(2, "all open, no MUST, no MAY NOT, PRICES 0 (of a yard as large as before, too)");
        y = rich();
        due("yard(4, 4)", y.yard(4, 4), 16);
        dueText("the yard", cellsOf(y), "....;....;....;....");
        due("MUST", y.count(5), 0);
        due("MAY NOT", y.count(6), 0);
        due("price(2, 0)", y.price(2, 0), 0);
        due("price(9, 0)", y.price(9, 0), 0);
        says(2, "SLOTS .. are emptied by yard()");
        for (int s = 0; s < 4; s++) due("rank(" + s + ")", y.rank(s), NONE);
        says(2, "yard() leaves THE TAPE and SHEETS");
        due("type(32, 1)", y.type(32, 1), 6);
        dueText("sheets", sheetsOf(y), sheetsOf(rich()));
        says(2, "all open, PRICES 0: what was beyond a smaller yard in between, too");
        y = new PavedYards();
        y.yard(8, 8);
        y.price(124, 5);
        y.price(111, 5);
        y.want(108, 1);
        y.cell(59, false);
        y.yard(1, 1);
        y.yard(8, 8);
        due("open cells", y.count(2), 64);
        due("MUST", y.count(5), 0);
        due("price(124, 0)", y.price(124, 0), 0);
        due("price(111, 0)", y.price(111, 0), 0);
    }

    private static void promise3() {
        says(3, "A cell is open, or closed .. BAD. (there is no such cell)");
        for (int c : new int[] {MIN, -1, 16, 64, MAX}) {
            stays(RICH, "cell(" + c + ", true)", x -> x.cell(c, true), BAD);
            stays(RICH, "cell(" + c + ", false)", x -> x.cell(c, false), BAD);
        }
        int[][] sizes = {{1, 1}, {5, 3}, {3, 5}, {8, 8}, {1, 8}, {8, 1}};
        for (int[] size : sizes) {
            y = new PavedYards();
            int last = y.yard(size[0], size[1]) - 1;
            due("cell(0, true)", y.cell(0, true), 1);
            due("cell(" + last + ", false)", y.cell(last, false), 1);
            due("cell(" + (last + 1) + ", false)", y.cell(last + 1, false), BAD);
            due("cell(-1, false)", y.cell(-1, false), BAD);
            due("open cells", y.count(2), last);
        }
        says(3, "whether it was open (1, 0)");
        y = new PavedYards();
        due("open stays open", y.cell(15, true), 1);
        due("open is closed", y.cell(15, false), 1);
        due("closed stays closed", y.cell(15, false), 0);
        due("closed is opened", y.cell(15, true), 0);
        due("it is open", y.cell(15, true), 1);
        says(3, "(If it becomes another one ..): not if it stays as it was");
        stays(RICH, "cell(0, false)", x -> x.cell(0, false), 0);
        stays(RICH, "cell(12, true)", x -> x.cell(12, true), 1);
        says(3, "(.. MUST, MAY NOT, PRICES of BRICKS on it go.)");
        for (int b : new int[] {8, 10, 3, 11}) {
            due("brick " + b + " was MUST", wantBehindCell(5, b, 1), 0);
            due("brick " + b + " was MAY NOT", wantBehindCell(5, b, 2), 0);
            due("PRICE of brick " + b, priceBehindCell(5, b), 0);
        }
        for (int[] at : new int[][] {{0, 0}, {0, 1}, {1, 0}, {4, 1}, {15, 28}, {15, 23}, {11, 23}, {14, 28}}) {
            due("brick " + at[1] + " behind cell(" + at[0] + ")", wantBehindCell(at[0], at[1], 1), 0);
            due("PRICE of brick " + at[1] + " behind cell(" + at[0] + ")", priceBehindCell(at[0], at[1]), 0);
        }
        says(3, "(.. of BRICKS on it go.): of others they stay");
        for (int b : new int[] {0, 2, 4, 1, 5, 9, 12, 13, 16, 18, 19}) {
            due("brick " + b + " is MUST", wantBehindCell(5, b, 1), 1);
            due("brick " + b + " is MAY NOT", wantBehindCell(5, b, 2), 2);
            due("PRICE of brick " + b, priceBehindCell(5, b), 5);
        }
        says(3, "x = c modulo W: at the rim no BRICK of the row beside is on the cell");
        for (int b : new int[] {4, 7, 5}) due("brick " + b + " behind cell(4)", wantBehindCell(4, b, 1), 1);
        for (int b : new int[] {8, 9, 16}) due("brick " + b + " behind cell(3)", wantBehindCell(3, b, 1), 1);
        says(3, "SLOTS .. are emptied .. as a cell becomes another one");
        y = rich();
        due("cell(0, true)", y.cell(0, true), 0);
        due("opened: count(7)", y.count(7), 0);
        y = rich();
        due("cell(15, false)", y.cell(15, false), 1);
        due("closed: count(7)", y.count(7), 0);
        due("MUST elsewhere stays", y.count(5), 1);
    }

    private static int wantBehindCell(int c, int brick, int how) {
        PavedYards one = new PavedYards();
        one.want(brick, how);
        one.cell(c, false);
        one.cell(c, true);
        return one.want(brick, 0);
    }

    private static int priceBehindCell(int c, int brick) {
        PavedYards one = new PavedYards();
        one.price(brick, 5);
        one.cell(c, false);
        one.cell(c, true);
        return one.price(brick, 0);
    }

    private static Start typed(int n) {
        return new Start("rich with " + n + " on the tape", () -> {
            PavedYards one = rich();
            for (int left = n - 5; left > 0; left -= 8) one.type(0x2020202020202020L, Math.min(8, left));
            return one;
        });
    }

    private static void promise4() {
        long dots = 0x2E2E2E2E2E2E2E2EL;
        says(4, "The n lowest bytes (1 .. 8) .. BAD: n");
        for (int n : new int[] {MIN, -1, 0, 9, 16, MAX}) stays(RICH, "type(dots, " + n + ")", x -> x.type(dots, n), BAD);
        for (int n = 1; n <= 8; n++) due("type(dots, " + n + ")", rich().type(dots, n), 5 + n);
        says(4, "BAD: .. a byte not 32 .. 126");
        for (int k = 0; k < 8; k++) {
            long others = dots & ~(255L << 8 * k);
            for (long b : new long[] {0, 31, 127, 128, 160, 174, 254, 255}) {
                long w = others | b << 8 * k;
                stays(RICH, "type of byte " + b + " at " + k, x -> x.type(w, 8), BAD);
                if (k > 0) due("byte " + b + " above the lowest " + k, rich().type(w, k), 5 + k);
            }
            for (long b : new long[] {32, 33, 125, 126}) due("type of byte " + b + " at " + k, rich().type(others | b << 8 * k, 8), 13);
        }
        says(4, "of these the highest first, come behind THE TAPE");
        y = new PavedYards();
        due("type(.#;)", y.type(0x2E233BL, 3), 3);
        due("type(##)", y.type(0x7F2323L, 2), 5);
        due("read()", y.read(), 1);
        dueText("the yard", cellsOf(y), ".#;##");
        says(4, "FULL: 90");
        due("82 and 8", typed(82).made.get().type(0x2020202020202020L, 8), 90);
        stays(typed(83), "type(blanks, 8)", x -> x.type(0x2020202020202020L, 8), FULL);
        due("83 and 7", typed(83).made.get().type(0x20202020202020L, 7), 90);
        due("89 and 1", typed(89).made.get().type(32, 1), 90);
        stays(typed(89), "type(blanks, 2)", x -> x.type(0x2020, 2), FULL);
        stays(typed(90), "type(32, 1)", x -> x.type(32, 1), FULL);
        stays(typed(90), "type(dots, 8)", x -> x.type(dots, 8), FULL);
        says(4, "BAD .. FULL: of both the first");
        stays(typed(90), "type(31, 1)", x -> x.type(31, 1), BAD);
        stays(typed(90), "type(127, 1)", x -> x.type(127, 1), BAD);
        stays(typed(90), "type(dots, 0)", x -> x.type(dots, 0), BAD);
        stays(typed(90), "type(dots, 9)", x -> x.type(dots, 9), BAD);
        stays(typed(83), "type(31 and dots, 8)", x -> x.type(31L << 56 | dots >>> 8, 8), BAD);
        says(4, "come behind THE TAPE (which read() empties)");
        y = typed(90).made.get();
        y.read();
        due("type(46, 1)", y.type(46, 1), 1);
    }

    private static void promise5() {
        says(5, "THE TAPE .. is THE YARD: how many open cells");
        due("read()", RICH.made.get().read(), 3);
        says(5, "rows .. all as long (1 .. 8), 8 rows at most");
        for (int w = 1; w <= 8; w++) {
            for (int h = 1; h <= 8; h++) {
                y = rich();
                y.read();
                String text = (";" + ".".repeat(w)).repeat(h).substring(1);
                due("read() of " + text, readText(y, text), w * h);
                due("count(0)", y.count(0), w);
                due("count(1)", y.count(1), h);
            }
        }
        says(5, "a cell is . (open) or #");
        for (String text : new String[] {".", "#", "##;##", "#.#.#.#.", ".;#;.;#;.;#;.;#", "#.;.."}) {
            y = rich();
            y.read();
            due("read() of " + text, readText(y, text), text.replace("#", "").replace(";", "").length());
            dueText("the yard", cellsOf(y), text);
        }
        says(5, "THE TAPE, which is empty then");
        due("type(46, 1)", y.type(46, 1), 1);
        says(5, "as by yard(), cell(): no MUST, no MAY NOT, PRICES 0; SLOTS .. are emptied by .. read()");
        y = rich();
        y.read();
        readText(y, "#..#;....;....;....");
        for (int what = 5; what < 8; what++) due("count(" + what + ")", y.count(what), 0);
        due("price(2, 0)", y.price(2, 0), 0);
        due("price(9, 0)", y.price(9, 0), 0);
        says(5, "bytes 32 count for nothing");
        due("blanks everywhere", readText(y, "  . #  ;  . .  "), 3);
        dueText("the yard", cellsOf(y), ".#;..");
        due("eight cells and blanks", readText(y, " . . . . . . . . "), 8);
        due("90 bytes", readText(y, "........;........;........;........;........;........;........;........" + " ".repeat(19)), 64);
        due("90 bytes", readText(y, " ".repeat(19) + "........;........;........;........;........;........;........;#######."), 57);
        faults();
    }

    private static void faults() {
        says(5, "FAULTS: -20 less the place of the first byte (behind blanks) that can't stand there");
        for (int b = 33; b <= 126; b++) {
            if (b == '.' || b == '#') continue;
            fault("" + (char) b, 0);
            fault(" " + (char) b, 1);
            if (b != ';') fault(".." + (char) b + "x", 2);
            fault("..;" + (char) b, 3);
        }
        says(5, "rows .. all as long (1 .. 8): a row that is empty, shorter, longer, of nine");
        fault(";.", 0);
        fault(".;;.", 2);
        fault(". ; ;.", 4);
        fault("..;.;..", 4);
        fault("..;...;..", 5);
        fault("..;..;...", 8);
        fault(".......;........", 15);
        fault("........;.......;", 16);
        fault(".........", 8);
        fault("........ .", 9);
        fault("........#;", 8);
        says(5, "8 rows at most");
        fault(".;.;.;.;.;.;.;.;.", 15);
        fault(".;.;.;.;.;.;.;.;", 15);
        fault(".;.;.;.;.;.;.;. ; .", 16);
        fault("..;..;..;..;..;..;..;.;", 22);
        says(5, "(the end: how many bytes there are)");
        fault("", 0);
        fault(" ", 1);
        fault(" ".repeat(90), 90);
        fault(".;", 2);
        fault(".; ", 3);
        fault("..;.", 4);
        fault("..;. ", 5);
        fault(".;.;.;.;.;.;.;", 14);
        fault("........;.......", 16);
        fault("..;..;", 6);
        says(5, "the place: up to the last byte that there is room for");
        fault("." + " ".repeat(88) + "x", 89);
        fault("." + " ".repeat(88) + ";", 90);
        fault("  . #  ;  ; . .", 10);
        says(5, "the first byte that can't stand there");
        fault("x y", 0);
        fault(".x;;", 1);
    }

    /** Behind a FAULT the yard stays, with all that belongs to it; the tape alone is empty. */
    private static void fault(String text, int place) {
        Start start = and(RICH, "read()ing", x -> {
            x.read();
            readText(x, "#..#;....;....;....");
            x.want(24, 1);
            x.price(2, 7);
            return x.place(0, 1);
        });
        stays(start, "read() of '" + text + "'", x -> readText(x, text), -20 - place);
    }

    private static void promise6() {
        says(6, "BAD (c 0 .. W H)");
        for (int c : new int[] {MIN, -1, 17, 64, MAX}) stays(RICH, "lay(" + c + ", 0, 3)", x -> x.lay(c, 0, 3), BAD);
        stays(RICH, "lay(16, 0, 4)", x -> x.lay(16, 0, 4), 0);
        stays(RICH, "lay(15, 0, 3)", x -> x.lay(15, 0, 3), 1);
        due("lay(0, 0, 3)", rich().lay(0, 0, 3), 1);
        says(6, "BAD (there is no such SHEET)");
        for (int s : OFF_FOUR) stays(RICH, "lay(0, " + s + ", 0)", x -> x.lay(0, s, 0), BAD);
        says(6, "NULL");
        stays(RICH, "lay(0, 3, 0)", x -> x.lay(0, 3, 0), NULL);
        for (int s = 0; s < 3; s++) {
            int sheet = s;
            stays(and(RICH, "SHEET " + s + " dropped", x -> x.drop(sheet)), "lay(0, " + s + ", 0)", x -> x.lay(0, sheet, 0), NULL);
        }
        says(6, "CAST (taken as a row of booleans)");
        stays(RICH, "lay(0, 1, 0)", x -> x.lay(0, 1, 0), CAST);
        stays(RICH, "lay(0, 2, 0)", x -> x.lay(0, 2, 0), CAST);
        says(6, "INDEX: i beyond its size");
        for (int i : new int[] {MIN, -1, 5, 64, MAX}) stays(RICH, "lay(0, 0, " + i + ")", x -> x.lay(0, 0, i), INDEX);
        stays(RICH, "lay(8, 0, 4)", x -> x.lay(8, 0, 4), 0);
        Start none = and(RICH, "a row of none", x -> x.sheet(0, 0, 0));
        stays(none, "lay(0, 0, 0)", x -> x.lay(0, 0, 0), 0);
        stays(none, "lay(16, 0, 0)", x -> x.lay(16, 0, 0), 0);
        stays(none, "lay(0, 0, 1)", x -> x.lay(0, 0, 1), INDEX);
        says(6, "BAD: there are fewer cells");
        stays(RICH, "lay(13, 0, 0)", x -> x.lay(13, 0, 0), BAD);
        stays(RICH, "lay(16, 0, 3)", x -> x.lay(16, 0, 3), BAD);
        stays(RICH, "lay(15, 0, 2)", x -> x.lay(15, 0, 2), BAD);
        y = rich();
        due("lay(12, 0, 0)", y.lay(12, 0, 0), 4);
        dueText("the yard", cellsOf(y), "#..#;....;....;.##.");
        y = rich();
        due("lay(13, 0, 1)", y.lay(13, 0, 1), 3);
        dueText("the yard", cellsOf(y), "#..#;....;....;.##.");
        y = rich();
        due("lay(0, 0, 0)", y.lay(0, 0, 0), 4);
        dueText("the yard", cellsOf(y), ".##.;....;....;....");
        y = new PavedYards();
        y.yard(8, 8);
        y.sheet(0, 0, 64);
        due("lay(1, 0, 0) of 64", y.lay(1, 0, 0), BAD);
        due("open cells", y.count(2), 64);
        due("lay(0, 0, 0) of 64", y.lay(0, 0, 0), 64);
        due("open cells", y.count(2), 0);
        layOfTwoFaults();
        says(6, "as by cell(): what does not become another one stays");
        stays(and(RICH, "open cells", x -> sheetOf(x, 0, 0, 1, 1)), "lay(1, 0, 0)", x -> x.lay(1, 0, 0), 2);
        says(6, "as by cell(): SLOTS .. are emptied .. as a cell becomes another one; MUST .. of BRICKS on it go");
        y = rich();
        due("lay(15, 0, 2) of a closed cell", y.item(0, 0, 3, 0) + y.lay(15, 0, 3), 2);
        due("count(7)", y.count(7), 0);
        due("MUST elsewhere stays", y.count(5), 1);
        due("lay(12, 0, 3)", y.lay(12, 0, 3), 1);
        due("MUST on it goes", y.count(5), 0);
        due("MAY NOT elsewhere stays", y.count(6), 1);
    }

    private static void layOfTwoFaults() {
        says(6, "BAD; NULL; CAST; INDEX; BAD: of several the first");
        stays(RICH, "lay(17, 3, 0): BAD, NULL", x -> x.lay(17, 3, 0), BAD);
        stays(RICH, "lay(-1, 1, 0): BAD, CAST", x -> x.lay(-1, 1, 0), BAD);
        stays(RICH, "lay(17, 0, 5): BAD, INDEX", x -> x.lay(17, 0, 5), BAD);
        stays(RICH, "lay(0, 4, -1): BAD, INDEX", x -> x.lay(0, 4, -1), BAD);
        stays(RICH, "lay(0, 3, -1): NULL, INDEX", x -> x.lay(0, 3, -1), NULL);
        stays(RICH, "lay(0, 3, 65): NULL, INDEX", x -> x.lay(0, 3, 65), NULL);
        stays(RICH, "lay(0, 1, 4): CAST, INDEX", x -> x.lay(0, 1, 4), CAST);
        stays(RICH, "lay(0, 2, -1): CAST, INDEX", x -> x.lay(0, 2, -1), CAST);
        stays(RICH, "lay(16, 2, 0): CAST, fewer cells", x -> x.lay(16, 2, 0), CAST);
        stays(RICH, "lay(16, 0, -1): INDEX, fewer cells", x -> x.lay(16, 0, -1), INDEX);
    }

    private static void promise7() {
        says(7, "BAD");
        for (int what : new int[] {MIN, -1, 8, MAX}) stays(RICH, "count(" + what + ")", x -> x.count(what), BAD);
        says(7, "0 W, 1 H, 2 open cells, 3 DARK ones, 4 BRICKS that there are, 5 MUST, 6 MAY NOT, 7 SLOTS that hold one");
        counts("count", rich(), 4, 4, 14, 7, 20, 1, 1, 3);
        counts("one open cell", yardOf("."), 1, 1, 1, 1, 0, 0, 0, 0);
        counts("one closed cell", yardOf("#"), 1, 1, 0, 0, 0, 0, 0, 0);
        counts("a light cell", yardOf("#."), 2, 1, 1, 0, 0, 0, 0, 0);
        counts("odd rows", yardOf("...;...;..."), 3, 3, 9, 5, 12, 0, 0, 0);
        counts("open corners alone", yardOf(".#.;#.#;.#."), 3, 3, 5, 5, 0, 0, 0, 0);
        counts("a column", yardOf(".;.;.;.;.;.;.;."), 1, 8, 8, 4, 7, 0, 0, 0);
        counts("a row", yardOf("........"), 8, 1, 8, 4, 7, 0, 0, 0);
        y = new PavedYards();
        y.yard(8, 8);
        for (int b = 0; b < 128; b++) y.want(b, 1 + b % 2);
        counts("all of 8 by 8", y, 8, 8, 64, 32, 112, 56, 56, 0);
        says(7, "7 SLOTS that hold one: none to four");
        y = new PavedYards();
        for (int s = 0; s < 4; s++) {
            due("count(7)", y.count(7), s);
            y.place(3 - s, s);
        }
        due("count(7)", y.count(7), 4);
        y.place(0, 35);
        due("count(7) behind another in a full one", y.count(7), 4);
    }

    private static void counts(String what, PavedYards one, int... wants) {
        for (int i = 0; i < 8; i++) due(what + ": count(" + i + ")", one.count(i), wants[i]);
    }

    // ---- 2 pavings

    private static void promise8() {
        says(8, "BAD: also there is no such BRICK (both cells are in THE YARD and open)");
        for (int b : NO_BRICKS) stays(RICH, "want(" + b + ", 1)", x -> x.want(b, 1), BAD);
        for (int b : NO_BRICKS) stays(RICH, "want(" + b + ", 0)", x -> x.want(b, 0), BAD);
        for (int b : new int[] {2, 3, 5, 8, 12, 15, 16, 20, 23, 28}) due("want(" + b + ", 2)", rich().want(b, 2), 0);
        says(8, "MUST (1), MAY NOT be (2), neither (0) .. BAD");
        for (int how : OFF_LANES) {
            stays(RICH, "want(24, " + how + ")", x -> x.want(24, how), BAD);
            stays(RICH, "want(0, " + how + ")", x -> x.want(0, how), BAD);
        }
        says(8, "what it was");
        for (int was = 0; was < 3; was++) {
            for (int how = 0; how < 3; how++) {
                y = new PavedYards();
                y.want(28, was);
                due("want(28, " + how + ")", y.want(28, how), was);
                due("MUST", y.count(5), how == 1 ? 1 : 0);
                due("MAY NOT", y.count(6), how == 2 ? 1 : 0);
                due("want(28, 0)", y.want(28, 0), how);
            }
        }
        stays(RICH, "want(24, 1) again", x -> x.want(24, 1), 1);
        stays(RICH, "want(2, 0) again", x -> x.want(2, 0), 0);
        says(8, "SLOTS .. are emptied (not by MUST, MAY NOT, PRICES)");
        y = rich();
        due("want(28, 2)", y.want(28, 2), 0);
        due("count(7)", y.count(7), 3);
        due("rank(0): it has the brick", y.rank(0), NOT);
        due("want(28, 0)", y.want(28, 0), 2);
        due("rank(0)", y.rank(0), 0);
        says(8, "x = c modulo W: the last cell of a row and the first of the next have no BRICK");
        y = new PavedYards();
        y.yard(3, 2);
        due("want(4, 1)", y.want(4, 1), BAD);
        due("want(5, 1)", y.want(5, 1), 0);
        due("want(8, 1)", y.want(8, 1), 0);
        due("want(7, 1)", y.want(7, 1), BAD);
        due("want(10, 1)", y.want(10, 1), BAD);
        due("want(12, 1)", y.want(12, 1), BAD);
        y.yard(8, 8);
        due("want(124, 1)", y.want(124, 1), 0);
        due("want(111, 1)", y.want(111, 1), 0);
        for (int b : new int[] {14, 110, 113, 126, 127, 128, 129}) due("want(" + b + ", 1)", y.want(b, 1), BAD);
    }

    private static void promise9() {
        says(9, "PRICE of a BRICK: 0 .. 999 .. BAD");
        for (int v : new int[] {MIN, -1, 1000, MAX}) {
            stays(RICH, "price(2, " + v + ")", x -> x.price(2, v), BAD);
            stays(RICH, "price(0, " + v + ")", x -> x.price(0, v), BAD);
        }
        says(9, "what it was");
        y = rich();
        due("price(2, 0)", y.price(2, 0), 7);
        due("price(2, 1)", y.price(2, 1), 0);
        due("price(2, 998)", y.price(2, 998), 1);
        due("price(2, 999)", y.price(2, 999), 998);
        due("price(2, 999)", y.price(2, 999), 999);
        due("price(9, 0)", y.price(9, 0), 999);
        says(9, "BAD (there is no such BRICK)");
        for (int b : NO_BRICKS) stays(RICH, "price(" + b + ", 1)", x -> x.price(b, 1), BAD);
        y.yard(8, 8);
        due("price(124, 1)", y.price(124, 1), 0);
        due("price(111, 1)", y.price(111, 1), 0);
        for (int b : new int[] {14, 113, 126, 127, 128}) due("price(" + b + ", 1)", y.price(b, 1), BAD);
        says(9, "SLOTS .. are emptied (not by .. PRICES)");
        y = rich();
        due("price(28, 9)", y.price(28, 9), 0);
        due("count(7)", y.count(7), 3);
        due("rank(0)", y.rank(0), 0);
    }

    private static void promise10() {
        says(10, "A PAVING is a set of BRICKS that lie on each open cell once");
        due("no open cell", yardOf("#").pavings(), 1);
        due("no open cells", yardOf("####;####").pavings(), 1);
        due("one open cell", yardOf(".").pavings(), 0);
        due("one BRICK", yardOf("..").pavings(), 1);
        due("one BRICK", yardOf(".;.").pavings(), 1);
        due("not by a corner", yardOf(".#;#.").pavings(), 0);
        due("not round the rim", yardOf("#..;..#").pavings(), 1);
        due("not round the rim", yardOf("..#;#..").pavings(), 1);
        due("not from a row's end to the next", yardOf("##.;.##").pavings(), 0);
        due("as many DARK as LIGHT, but none", yardOf("...#;####;#...").pavings(), 0);
        for (int w = 1; w <= 8; w++) due("a row of " + w, yardOf(".".repeat(w)).pavings(), 1 - w % 2);
        for (int h = 1; h <= 8; h++) due("a column of " + h, yardOf(".;".repeat(h).substring(0, 2 * h - 1)).pavings(), 1 - h % 2);
        y = new PavedYards();
        y.yard(8, 8);
        due("the most of all yards", y.pavings(), 12988816);
        y.cell(63, false);
        due("one cell less", y.pavings(), 0);
        y.cell(0, false);
        due("two DARK cells less", y.pavings(), 0);
        y.yard(8, 7);
        due("8 by 7", y.pavings(), 1292697);
        y.yard(7, 8);
        due("7 by 8", y.pavings(), 1292697);
        says(10, "COUNTED PAVINGS have all MUST ones and none that MAY NOT be");
        y = new PavedYards();
        y.yard(2, 2);
        due("neither", y.pavings(), 2);
        y.want(0, 1);
        due("MUST", y.pavings(), 1);
        y.want(4, 1);
        due("both of one PAVING MUST", y.pavings(), 1);
        y.want(1, 1);
        due("two MUST on one cell", y.pavings(), 0);
        y.want(0, 0);
        y.want(4, 0);
        due("the other MUST", y.pavings(), 1);
        y.want(3, 2);
        due("MUST, but the one beside MAY NOT be", y.pavings(), 0);
        y.want(1, 2);
        due("MAY NOT", y.pavings(), 1);
        y.want(0, 2);
        due("none of both", y.pavings(), 0);
        says(10, "MUST: two that lie on one second cell");
        y.yard(3, 2);
        y.want(0, 1);
        y.want(3, 1);
        due("0 and 3 MUST", y.pavings(), 0);
        y.want(3, 0);
        y.want(2, 1);
        due("0 and 2 MUST", y.pavings(), 0);
        y.want(2, 0);
        y.want(5, 1);
        due("0 and 5 MUST", y.pavings(), 1);
    }

    private static void promise11() {
        says(11, "BAD (there is no such BRICK)");
        for (int b : NO_BRICKS) stays(RICH, "share(" + b + ")", x -> x.share(b), BAD);
        y = new PavedYards();
        y.yard(8, 8);
        for (int b : new int[] {14, 113, 126, 127, 128}) due("share(" + b + ")", y.share(b), BAD);
        due("share(0)", y.share(0), 6494408);
        due("share(1)", y.share(1), 6494408);
        due("share(124)", y.share(124), 6494408);
        due("share(111)", y.share(111), 6494408);
        says(11, "A BRICK's SHARE: how many COUNTED PAVINGS have it: none, some, all");
        stays(RICH, "share(24) that MUST be", x -> x.share(24), 6);
        stays(RICH, "share(21) that MAY NOT be", x -> x.share(21), 0);
        stays(RICH, "share(17) beside one that MUST be", x -> x.share(17), 0);
        stays(RICH, "share(28) of all", x -> x.share(28), 6);
        stays(RICH, "share(3) of one", x -> x.share(3), 1);
        stays(RICH, "share(2) of all but one", x -> x.share(2), 5);
        says(11, "there are no COUNTED PAVINGS");
        for (int b : new int[] {2, 8, 9, 24, 28}) stays(STUCK, "share(" + b + ")", x -> x.share(b), 0);
        due("share(0) of an odd row", yardOf("...").share(0), 0);
        says(11, "what was asked ahead does not stay: MUST, MAY NOT, cells");
        y = new PavedYards();
        y.yard(2, 3);
        due("share(0)", y.share(0), 2);
        y.want(5, 2);
        due("share(0)", y.share(0), 1);
        y.cheapest(0);
        due("share(0)", y.share(0), 1);
        y.want(5, 0);
        due("share(0)", y.share(0), 2);
        y.cell(2, false);
        y.cell(3, false);
        due("share(0)", y.share(0), 1);
        due("share(8)", y.share(8), 1);
    }

    private static void promise12() {
        says(12, "in all COUNTED PAVINGS (0), in none (1). BAD");
        for (int what : OFF_TWO) stays(RICH, "sure(" + what + ")", x -> x.sure(what), BAD);
        stays(RICH, "sure(0)", x -> x.sure(0), 2);
        stays(RICH, "sure(1)", x -> x.sure(1), 5);
        says(12, "NONE: there are no COUNTED PAVINGS");
        stays(STUCK, "sure(0)", x -> x.sure(0), NONE);
        stays(STUCK, "sure(1)", x -> x.sure(1), NONE);
        due("sure(0) of one open cell", yardOf(".").sure(0), NONE);
        due("sure(1) of one open cell", yardOf(".").sure(1), NONE);
        says(12, "BAD; NONE: of both the first");
        for (int what : OFF_TWO) stays(STUCK, "sure(" + what + ")", x -> x.sure(what), BAD);
        says(12, "one COUNTED PAVING alone, one without BRICKS");
        y = new PavedYards();
        y.yard(2, 2);
        due("sure(0) of two", y.sure(0), 0);
        due("sure(1) of two", y.sure(1), 0);
        y.want(0, 1);
        due("sure(0) of one", y.sure(0), 2);
        due("sure(1) of one", y.sure(1), 2);
        due("sure(0) of no open cells", yardOf("##;##").sure(0), 0);
        due("sure(1) of no open cells", yardOf("##;##").sure(1), 0);
    }

    private static void promise13() {
        says(13, "SLOTS 0 .. 3 .. BAD");
        for (int s : OFF_FOUR) stays(RICH, "place(" + s + ", 0)", x -> x.place(s, 0), BAD);
        for (int s = 0; s < 4; s++) {
            y = rich();
            due("place(" + s + ", 5)", y.place(s, 5), 7);
            due("rank(" + s + ")", y.rank(s), 5);
            for (int o = 0; o < 3; o++) if (o != s) due("rank(" + o + ") stays", y.rank(o), new int[] {0, 1, NOT}[o]);
        }
        for (int s : OFF_FOUR) stays(RICH, "place(" + s + ", 6)", x -> x.place(s, 6), BAD);
        says(13, "BAD: also no such RANK (among COUNTED PAVINGS)");
        for (long r : new long[] {Long.MIN_VALUE, -1, 6, 11, 12, MAX, 1L << 32, (1L << 32) + 1, Long.MAX_VALUE}) {
            stays(RICH, "place(0, " + r + ")", x -> x.place(0, r), BAD);
            stays(RICH, "place(3, " + r + ")", x -> x.place(3, r), BAD);
        }
        stays(RICH, "place(0, 0) again", x -> x.place(0, 0), 7);
        stays(STUCK, "place(0, 0) of none", x -> x.place(0, 0), BAD);
        stays(STUCK, "place(3, -1) of none", x -> x.place(3, -1), BAD);
        y = yardOf("##");
        due("place(0, 0) of no BRICKS", y.place(0, 0), 0);
        due("place(1, 1)", y.place(1, 1), BAD);
        due("place(1, -1)", y.place(1, -1), BAD);
        due("count(7)", y.count(7), 1);
        y.yard(8, 8);
        due("place(0, 12988815)", y.place(0, 12988815), 32);
        due("brick(0, 63)", y.brick(0, 63), 111);
        due("place(0, 12988816)", y.place(0, 12988816), BAD);
        due("place(0, 0)", y.place(0, 0), 32);
        due("brick(0, 63)", y.brick(0, 63), 124);
        says(13, "at the first cell on which they differ that with a BRICK to the east first");
        String[] order = {"2 8 12 16 20 24 28", "2 8 13 15 16 24 28", "2 9 10 15 18 24 28", "2 9 11 12 20 24 28", "2 9 11 13 15 24 28",
            "3 5 9 15 18 24 28"};
        y = rich();
        for (int r = 0; r < 6; r++) {
            due("place(3, " + r + ")", y.place(3, r), 7);
            dueText("paving " + r, bricksIn(y, 3), order[r]);
        }
    }

    private static void promise14() {
        says(14, "BAD");
        for (int s : OFF_FOUR) stays(RICH, "rank(" + s + ")", x -> x.rank(s), BAD);
        says(14, "NONE: it holds none");
        stays(RICH, "rank(3)", x -> x.rank(3), NONE);
        stays(STUCK, "rank(3)", x -> x.rank(3), NONE);
        for (int s = 0; s < 4; s++) due("rank(" + s + ")", new PavedYards().rank(s), NONE);
        says(14, "NOT: it is not COUNTED");
        stays(RICH, "rank(2)", x -> x.rank(2), NOT);
        for (int s = 0; s < 3; s++) {
            int slot = s;
            stays(STUCK, "rank(" + s + ")", x -> x.rank(slot), NOT);
        }
        y = rich();
        y.want(21, 0);
        due("rank(2) without MAY NOT, with MUST", y.rank(2), NOT);
        y.want(21, 2);
        y.want(24, 0);
        due("rank(2) without MUST, with MAY NOT", y.rank(2), NOT);
        y.want(21, 0);
        due("rank(2) without both", y.rank(2), 4);
        says(14, "RANK: how many are ahead: none, all others");
        stays(RICH, "rank(0)", x -> x.rank(0), 0);
        y = rich();
        y.place(3, 5);
        due("rank(3)", y.rank(3), 5);
        y.want(2, 2);
        due("rank(3) as the others are not COUNTED", y.rank(3), 0);
        due("rank(0)", y.rank(0), NOT);
        y = yardOf("#");
        y.place(3, 0);
        due("rank(3) of no BRICKS", y.rank(3), 0);
    }

    private static void promise15() {
        says(15, "BAD (there is no such SLOT)");
        for (int s : OFF_FOUR) stays(RICH, "brick(" + s + ", 5)", x -> x.brick(s, 5), BAD);
        says(15, "BAD (there is no such cell)");
        for (int c : new int[] {MIN, -1, 16, 64, MAX}) stays(RICH, "brick(0, " + c + ")", x -> x.brick(0, c), BAD);
        says(15, "BAD: also closed");
        stays(RICH, "brick(0, 0)", x -> x.brick(0, 0), BAD);
        stays(RICH, "brick(0, 3)", x -> x.brick(0, 3), BAD);
        says(15, "NONE: it holds none");
        stays(RICH, "brick(3, 1)", x -> x.brick(3, 1), NONE);
        stays(RICH, "brick(3, 15)", x -> x.brick(3, 15), NONE);
        says(15, "BAD; NONE: of both the first");
        for (int c : new int[] {MIN, -1, 0, 3, 16, MAX}) stays(RICH, "brick(3, " + c + ")", x -> x.brick(3, c), BAD);
        says(15, "The BRICK that lies on a cell (on its first, on its second)");
        y = rich();
        int[] due = {BAD, 2, 2, BAD, 8, 8, 12, 12, 17, 19, 21, 23, 17, 19, 21, 23};
        for (int c = 0; c < 16; c++) due("brick(2, " + c + ")", y.brick(2, c), due[c]);
    }

    private static void promise16() {
        says(16, "BAD");
        for (int s : OFF_FOUR) stays(RICH, "cheapest(" + s + ")", x -> x.cheapest(s), BAD);
        says(16, "NONE: there is none");
        for (int s = 0; s < 4; s++) {
            int slot = s;
            stays(STUCK, "cheapest(" + s + ")", x -> x.cheapest(slot), NONE);
        }
        due("cheapest(0) of one open cell", yardOf(".").cheapest(0), NONE);
        says(16, "BAD; NONE: of both the first");
        for (int s : OFF_FOUR) stays(STUCK, "cheapest(" + s + ")", x -> x.cheapest(s), BAD);
        says(16, "CHEAPEST: that COUNTED PAVING with the least sum of PRICES, of like ones the first");
        y = rich();
        due("cheapest(3)", y.cheapest(3), 7);
        due("rank(3) of two like ones", y.rank(3), 0);
        due("price(8, 1)", y.price(8, 1), 0);
        due("cheapest(3)", y.cheapest(3), 8);
        due("rank(3) of two like ones", y.rank(3), 0);
        due("price(12, 1)", y.price(12, 1), 0);
        due("cheapest(3)", y.cheapest(3), 8);
        due("rank(3)", y.rank(3), 1);
        y.price(9, 0);
        due("cheapest(3)", y.cheapest(3), 0);
        due("rank(3): the last", y.rank(3), 5);
        y.price(3, 6);
        due("cheapest(3)", y.cheapest(3), 6);
        due("rank(3): the last by one", y.rank(3), 5);
        y.price(3, 7);
        due("cheapest(3)", y.cheapest(3), 7);
        due("rank(3): alike, one ahead", y.rank(3), 2);
        y.want(10, 2);
        due("cheapest(3)", y.cheapest(3), 7);
        due("rank(3): it MAY NOT be", y.rank(3), 3);
        says(16, "CHEAPEST comes to a SLOT (by PRICES, MUST, MAY NOT as they are now)");
        y = new PavedYards();
        y.yard(2, 2);
        due("place(0, 1)", y.place(0, 1), 2);
        due("cheapest(0)", y.cheapest(0), 0);
        dueText("slot 0", bricksIn(y, 0), "0 4");
        y.price(0, 1);
        due("cheapest(0)", y.cheapest(0), 0);
        dueText("slot 0", bricksIn(y, 0), "1 3");
        y.price(3, 2);
        due("cheapest(0)", y.cheapest(0), 1);
        dueText("slot 0", bricksIn(y, 0), "0 4");
        y.want(4, 2);
        due("cheapest(0)", y.cheapest(0), 2);
        dueText("slot 0", bricksIn(y, 0), "1 3");
        says(16, "its sum: the least and the most that there is");
        y = yardOf("#");
        due("cheapest(0) of no BRICKS", y.cheapest(0), 0);
        due("count(7)", y.count(7), 1);
        y.yard(8, 8);
        for (int b = 0; b < 128; b++) y.price(b, 999);
        due("cheapest(0)", y.cheapest(0), 31968);
        due("rank(0)", y.rank(0), 0);
        due("cost(0)", y.cost(0), 31968);
    }

    private static void promise17() {
        says(17, "BAD");
        for (int s : OFF_FOUR) stays(RICH, "cost(" + s + ")", x -> x.cost(s), BAD);
        says(17, "NONE");
        stays(RICH, "cost(3)", x -> x.cost(3), NONE);
        says(17, "Sum of PRICES of a SLOT's PAVING");
        stays(RICH, "cost(0)", x -> x.cost(0), 7);
        stays(RICH, "cost(2) though it is not COUNTED", x -> x.cost(2), 7);
        stays(STUCK, "cost(0) though none is COUNTED", x -> x.cost(0), 7);
        stays(HOLED, "cost(0)", x -> x.cost(0), 3);
        stays(HOLED, "cost(1)", x -> x.cost(1), 0);
        y = rich();
        y.price(2, 0);
        due("cost(0) by PRICES as they are now", y.cost(0), 0);
        y.place(3, 2);
        due("cost(3)", y.cost(3), 999);
        y = yardOf("#");
        y.place(0, 0);
        due("cost(0) of no BRICKS", y.cost(0), 0);
    }

    private static void promise18() {
        says(18, "BAD");
        for (int s : OFF_FOUR) {
            stays(RICH, "keep(" + s + ", 0)", x -> x.keep(s, 0), BAD);
            stays(RICH, "keep(0, " + s + ")", x -> x.keep(0, s), BAD);
            stays(RICH, "keep(" + s + ", " + s + ")", x -> x.keep(s, s), BAD);
        }
        says(18, "NONE");
        for (int s = 0; s < 4; s++) {
            int slot = s;
            stays(RICH, "keep(3, " + s + ")", x -> x.keep(3, slot), NONE);
        }
        says(18, "BAD; NONE: of both the first");
        for (int s : OFF_FOUR) stays(RICH, "keep(3, " + s + ")", x -> x.keep(3, s), BAD);
        says(18, "A SLOT's PAVING comes to another one, too: 1.");
        for (int s = 0; s < 3; s++) {
            int slot = s;
            stays(RICH, "keep(" + s + ", " + s + ")", x -> x.keep(slot, slot), 1);
        }
        y = rich();
        due("keep(2, 3)", y.keep(2, 3), 1);
        dueText("slot 3", bricksIn(y, 3), "2 8 12 17 19 21 23");
        dueText("slot 2", bricksIn(y, 2), "2 8 12 17 19 21 23");
        due("keep(1, 0) over one that holds one", y.keep(1, 0), 1);
        due("rank(0)", y.rank(0), 1);
        due("turn(1, 3, 2)", y.turn(1, 3, 2) >= 0 ? 1 : 0, 1);
        due("rank(0): each has its own", y.rank(0), 1);
        due("rank(1)", y.rank(1), 0);
    }

    /** Two by two cells; SLOT 0 holds the first PAVING, SHEET 1 (bytes) and SHEET 2 (ints) the items. */
    private static Start bricksOf(int... items) {
        return new Start("two by two", () -> {
            PavedYards one = new PavedYards();
            one.yard(2, 2);
            one.place(0, 0);
            sheetOf(one, 0, 0, 1, 1);
            sheetOf(one, 1, 1, items);
            sheetOf(one, 2, 2, items);
            return one;
        });
    }

    private static void promise19() {
        Start good = bricksOf(1, 3);
        says(19, "BAD");
        for (int s : OFF_FOUR) {
            stays(good, "bricks(" + s + ", 1, 1)", x -> x.bricks(s, 1, 1), BAD);
            stays(good, "bricks(0, " + s + ", 1)", x -> x.bricks(0, s, 1), BAD);
        }
        says(19, "a LANE (1, 2) .. BAD");
        for (int lane : new int[] {MIN, -1, 0, 3, MAX}) {
            stays(good, "bricks(0, 1, " + lane + ")", x -> x.bricks(0, 1, lane), BAD);
            stays(good, "bricks(0, 0, " + lane + ")", x -> x.bricks(0, 0, lane), BAD);
        }
        for (int slot = 0; slot < 4; slot++) {
            for (int lane = 1; lane < 3; lane++) {
                y = good.made.get();
                due("bricks(" + slot + ", " + lane + ", " + lane + ")", y.bricks(slot, lane, lane), 1);
                dueText("slot " + slot, bricksIn(y, slot), "1 3");
            }
        }
        says(19, "NULL");
        stays(good, "bricks(0, 3, 1)", x -> x.bricks(0, 3, 1), NULL);
        stays(good, "bricks(3, 3, 2)", x -> x.bricks(3, 3, 2), NULL);
        for (int s = 0; s < 3; s++) {
            int sheet = s;
            Start dropped = and(good, "SHEET " + s + " dropped", x -> x.drop(sheet));
            stays(dropped, "bricks(0, " + s + ", 1)", x -> x.bricks(0, sheet, 1), NULL);
            stays(dropped, "bricks(0, " + s + ", 2)", x -> x.bricks(0, sheet, 2), NULL);
        }
        says(19, "CAST");
        stays(good, "bricks(0, 1, 2)", x -> x.bricks(0, 1, 2), CAST);
        stays(good, "bricks(0, 2, 1)", x -> x.bricks(0, 2, 1), CAST);
        stays(good, "bricks(0, 0, 1)", x -> x.bricks(0, 0, 1), CAST);
        stays(good, "bricks(0, 0, 2)", x -> x.bricks(0, 0, 2), CAST);
        says(19, "NOT: .. one is no BRICK");
        int[][] noBrick = {{0, -1}, {0, 2}, {0, 5}, {0, 6}, {0, 7}, {0, 8}, {-128, 0}, {127, 0}, {0, 126}, {-1, -1}, {MIN, 4}, {4, MAX}};
        notPaved(noBrick);
        says(19, "NOT: .. twice on a cell");
        notPaved(new int[][] {{0, 0}, {0, 1}, {1, 0}, {0, 3}, {1, 4}, {3, 4}, {0, 4, 0}, {0, 4, 4}, {0, 4, 1}, {0, 4, 1, 3}});
        says(19, "NOT: .. not on all");
        notPaved(new int[][] {{}, {0}, {4}, {1}, {3}});
        says(19, "All items .. are the BRICKS of a PAVING (in any order)");
        int[][] paved = {{0, 4}, {4, 0}, {1, 3}, {3, 1}};
        for (int[] items : paved) {
            for (int lane = 1; lane < 3; lane++) {
                y = bricksOf(items).made.get();
                due("bricks(3, " + lane + ", " + lane + ")", y.bricks(3, lane, lane), 1);
                dueText("slot 3", bricksIn(y, 3), items[0] % 2 == 0 ? "0 4" : "1 3");
            }
        }
        stays(bricksOf(0, 4), "bricks(0, 2, 2) as it is", x -> x.bricks(0, 2, 2), 1);
        says(19, "BAD; NULL; CAST; NOT: of several the first");
        stays(good, "bricks(4, 3, 1): BAD, NULL", x -> x.bricks(4, 3, 1), BAD);
        stays(good, "bricks(0, 3, 0): BAD, NULL", x -> x.bricks(0, 3, 0), BAD);
        stays(good, "bricks(-1, 1, 2): BAD, CAST", x -> x.bricks(-1, 1, 2), BAD);
        stays(good, "bricks(0, 1, 3): BAD, CAST", x -> x.bricks(0, 1, 3), BAD);
        stays(bricksOf(0, 0), "bricks(4, 1, 1): BAD, NOT", x -> x.bricks(4, 1, 1), BAD);
        stays(bricksOf(0, 0), "bricks(0, 1, 2): CAST, NOT", x -> x.bricks(0, 1, 2), CAST);
        stays(bricksOf(0, 0), "bricks(0, 0, 1): CAST, NOT", x -> x.bricks(0, 0, 1), CAST);
        says(19, "a PAVING without BRICKS; MUST, MAY NOT do not make it another");
        y = yardOf("##");
        y.sheet(0, 1, 0);
        y.sheet(1, 2, 1);
        due("bricks(0, 0, 1)", y.bricks(0, 0, 1), 1);
        due("bricks(1, 1, 2)", y.bricks(1, 1, 2), NOT);
        due("count(7)", y.count(7), 1);
        y = good.made.get();
        y.want(1, 2);
        due("bricks(1, 1, 1)", y.bricks(1, 1, 1), 1);
        due("rank(1)", y.rank(1), NOT);
        says(19, "All items: 64 of them, the last BRICK of the largest yard");
        y = new PavedYards();
        y.yard(8, 8);
        y.sheet(0, 1, 64);
        due("bricks(0, 0, 1) of 64", y.bricks(0, 0, 1), NOT);
        y.sheet(0, 1, 32);
        for (int i = 0; i < 32; i++) y.item(0, 1, i, 4 * i);
        due("bricks(0, 0, 1) of 32", y.bricks(0, 0, 1), 1);
        due("brick(0, 63)", y.brick(0, 63), 124);
        y.item(0, 1, 31, 126);
        due("bricks(1, 0, 1) beyond the last", y.bricks(1, 0, 1), NOT);
        y.item(0, 1, 31, 127);
        due("bricks(1, 0, 1) beyond the last", y.bricks(1, 0, 1), NOT);
    }

    private static void notPaved(int[][] rows) {
        for (int[] items : rows) {
            Start start = bricksOf(items);
            String told = Arrays.toString(items);
            stays(start, "bricks(0, 2, 2) of ints " + told, x -> x.bricks(0, 2, 2), NOT);
            stays(start, "bricks(3, 2, 2) of ints " + told, x -> x.bricks(3, 2, 2), NOT);
            boolean fits = true;
            for (int v : items) fits &= v == (byte) v;
            if (fits) stays(start, "bricks(0, 1, 1) of bytes " + told, x -> x.bricks(0, 1, 1), NOT);
        }
    }

    private static void promise20() {
        says(20, "THE MOST: how many BRICKS can lie beside one another at most");
        String[] texts = {"#", ".", "..", ".#;#.", "...", "...;...;...", "##.;.##", "#.#;...;#.#", "....;....", "........", ".;.;.;.;.;.;.;.",
            "#..", "#;.;.", "...;.##", "..;.#;.#", "##...;##.##", ".....;.#.#."};
        int[] most = {0, 0, 1, 0, 1, 4, 0, 1, 4, 4, 4, 1, 1, 2, 2, 2, 3};
        for (int i = 0; i < texts.length; i++) due("most() of " + texts[i], yardOf(texts[i]).most(), most[i]);
        y = new PavedYards();
        y.yard(8, 8);
        due("most() of 8 by 8", y.most(), 32);
        y.cell(0, false);
        due("most() of one cell less", y.most(), 31);
        y.cell(63, false);
        due("most() of two DARK cells less", y.most(), 30);
        says(20, "(MUST, MAY NOT do not matter)");
        stays(RICH, "most()", PavedYards::most, 7);
        stays(STUCK, "most()", PavedYards::most, 7);
        y = new PavedYards();
        for (int b = 0; b < 32; b++) y.want(b, 2);
        due("most() though all MAY NOT be", y.most(), 8);
    }

    private static void promise21() {
        Start light = new Start("a plus", () -> yardOf("#.#;...;#.#"));
        says(21, "DARK (0), LIGHT (1) .. BAD");
        for (int side : OFF_TWO) {
            stays(RICH, "bar(" + side + ", 0)", x -> x.bar(side, 0), BAD);
            stays(light, "bar(" + side + ", 1)", x -> x.bar(side, 1), BAD);
        }
        says(21, "OPEN TO DOUBT (0), .. beside these (1). BAD");
        for (int what : OFF_TWO) {
            stays(RICH, "bar(0, " + what + ")", x -> x.bar(0, what), BAD);
            stays(light, "bar(1, " + what + ")", x -> x.bar(1, what), BAD);
            stays(light, "bar(" + what + ", " + what + ")", x -> x.bar(what, what), BAD);
        }
        says(21, "OPEN TO DOUBT are DARK (LIGHT) cells that some such heap of THE MOST leaves bare: none, all, on both sides");
        bars("rich", rich(), 0, 0, 0, 0);
        bars("a plus", yardOf("#.#;...;#.#"), 0, 0, 4, 1);
        bars("no open cell", yardOf("#"), 0, 0, 0, 0);
        bars("one DARK cell", yardOf("."), 1, 0, 0, 0);
        bars("one LIGHT cell", yardOf("#."), 0, 0, 1, 0);
        bars("an odd row", yardOf("..."), 2, 1, 0, 0);
        bars("an odd column", yardOf(".;.;."), 2, 1, 0, 0);
        bars("an odd column", yardOf("#;.;.;."), 0, 0, 2, 1);
        bars("beside the first cell", yardOf("..;.#"), 0, 0, 2, 1);
        bars("beside the last cell", yardOf("#.;.."), 0, 0, 2, 1);
        bars("one that the first BRICK to hand would leave bare", yardOf("...;.##"), 0, 0, 0, 0);
        bars("two by a corner", yardOf(".#;#."), 2, 0, 0, 0);
        bars("one of each", yardOf(".##."), 1, 0, 1, 0);
        bars("as many DARK as LIGHT", yardOf("...#;####;#..."), 2, 1, 2, 1);
        says(21, "(MUST, MAY NOT do not matter)");
        bars("stuck", stuck(), 0, 0, 0, 0);
        y = new PavedYards();
        y.yard(8, 8);
        y.cell(0, false);
        bars("8 by 8 less a DARK cell", y, 0, 0, 32, 31);
        y.cell(0, true);
        y.cell(7, false);
        bars("8 by 8 less a LIGHT cell", y, 32, 31, 0, 0);
    }

    private static void bars(String what, PavedYards one, int... wants) {
        for (int i = 0; i < 4; i++) due(what + ": bar(" + i / 2 + ", " + i % 2 + ")", one.bar(i / 2, i % 2), wants[i]);
    }

    private static void promise22() {
        says(22, "DARK (0), LIGHT (1) .. BAD");
        for (int side : OFF_TWO) stays(RICH, "bars(" + side + ", 5)", x -> x.bars(side, 5), BAD);
        says(22, "BAD (there is no such cell)");
        for (int c : new int[] {MIN, -1, 16, 64, MAX}) {
            stays(RICH, "bars(0, " + c + ")", x -> x.bars(0, c), BAD);
            stays(RICH, "bars(1, " + c + ")", x -> x.bars(1, c), BAD);
        }
        says(22, "BAD: also closed");
        stays(RICH, "bars(0, 0)", x -> x.bars(0, 0), BAD);
        stays(RICH, "bars(1, 3)", x -> x.bars(1, 3), BAD);
        stays(RICH, "bars(2, 0)", x -> x.bars(2, 0), BAD);
        says(22, "2 OPEN TO DOUBT, 1 beside, 0");
        stays(RICH, "bars(0, 15)", x -> x.bars(0, 15), 0);
        stays(RICH, "bars(1, 1)", x -> x.bars(1, 1), 0);
        int[][] due = {{2, 1, 2, BAD, BAD, BAD, BAD, BAD, BAD, 0, 0, 0}, {0, 0, 0, BAD, BAD, BAD, BAD, BAD, BAD, 2, 1, 2}};
        y = yardOf("...#;####;#...");
        for (int c = 0; c < 12; c++) for (int side = 0; side < 2; side++) due("bars(" + side + ", " + c + ")", y.bars(side, c), due[side][c]);
        says(22, "THE BAR: the cells OPEN TO DOUBT, and those beside them: not what is farther");
        y = yardOf("..#...");
        int[] far = {0, 0, BAD, 2, 1, 2};
        for (int c = 0; c < 6; c++) due("bars(1, " + c + ")", y.bars(1, c), far[c]);
        for (int c = 0; c < 6; c++) due("bars(0, " + c + ")", y.bars(0, c), c == 2 ? BAD : 0);
    }

    // ---- 3 heights, lines, rings

    private static void promise23() {
        says(23, "WHOLE is THE YARD, if it has open cells");
        due("one closed", yardOf("#").whole(), 0);
        due("all closed", yardOf("###;###").whole(), 0);
        due("one open", yardOf(".").whole(), 1);
        says(23, "these are one by sides");
        due("two apart", yardOf(".#.").whole(), 0);
        due("two apart", yardOf(".;#;.").whole(), 0);
        due("from a row's end to the next", yardOf("##.;.##").whole(), 0);
        due("the last one apart", yardOf("...;###;##.").whole(), 0);
        due("one by a long way", yardOf(".#...;.#.#.;...#.").whole(), 1);
        says(23, "closed ones with a frame around THE YARD are one by sides or corners");
        due("a hole", yardOf("...;.#.;...").whole(), 0);
        due("two holes", yardOf(".....;.#.#.;.....").whole(), 0);
        due("a hole, one at the rim", yardOf("#...;..#.;....").whole(), 0);
        for (String text : new String[] {"...;.#.", "...;#..;...", "...;..#;...", ".#.;...;...", "...;...;.#."}) due("at the rim: " + text, yardOf(text).whole(), 1);
        due("a corner of the yard", yardOf("#..;...;..#").whole(), 1);
        due("all open", yardOf("........;........").whole(), 1);
        due("a hole of two by a side", yardOf("....;.##.;....").whole(), 0);
        says(23, "no two open cells touch by a corner alone");
        due("the only fault: south-west of a corner", yardOf("..#;.#.;...").whole(), 0);
        due("the only fault: south-east of a corner", yardOf("#..;.#.;...").whole(), 0);
        due("the only fault: at the foot", yardOf("...;.#.;..#").whole(), 0);
        due("two by a corner", yardOf(".#;#.").whole(), 0);
        due("two by the other corner", yardOf("#.;.#").whole(), 0);
        due("three of the four", yardOf("#.;..").whole(), 1);
        due("two of the four by a side", yardOf("##;..").whole(), 1);
        says(23, "1, 0 (it changes nothing)");
        stays(RICH, "whole()", PavedYards::whole, 1);
        stays(HOLED, "whole()", PavedYards::whole, 0);
        stays(STUCK, "whole()", PavedYards::whole, 1);
        says(23, "the largest yard: a hole that just is none");
        y = new PavedYards();
        y.yard(8, 8);
        due("8 by 8", y.whole(), 1);
        y.cell(54, false);
        due("a hole beside the rim", y.whole(), 0);
        y.cell(63, false);
        due("by a corner to the rim: two touch", y.whole(), 0);
        y.cell(62, false);
        due("by a side to the rim", y.whole(), 1);
        for (int c = 0; c < 64; c++) y.cell(c, false);
        due("all of 8 by 8 closed", y.whole(), 0);
        oneCellClosed();
    }

    /** In a row or column only its ends may go; elsewhere each cell at the rim, and none within. */
    private static void oneCellClosed() {
        says(23, "closed ones with a frame around THE YARD are one: one cell closed, each in each yard");
        for (int w = 1; w <= 8; w++) {
            for (int h = 1; h <= 8; h++) {
                y = new PavedYards();
                y.yard(w, h);
                for (int c = 0; c < w * h; c++) {
                    boolean end = c == 0 || c == w * h - 1;
                    boolean rim = c % w == 0 || c % w == w - 1 || c / w == 0 || c / w == h - 1;
                    boolean whole = w * h > 1 && (w == 1 || h == 1 ? end : rim);
                    y.cell(c, false);
                    due("whole() of " + w + " by " + h + " without cell " + c, y.whole(), whole ? 1 : 0);
                    y.cell(c, true);
                }
            }
        }
    }

    private static void promise24() {
        says(24, "BAD less 1000 (-1001)");
        for (int s : OFF_FOUR) stays(RICH, "height(" + s + ", 1, 1)", x -> x.height(s, 1, 1), HBAD);
        says(24, "CORNERS x, y (0 .. W, 0 .. H) .. BAD less 1000");
        for (int off : new int[] {MIN, -1, 5, MAX}) {
            stays(RICH, "height(0, " + off + ", 1)", x -> x.height(0, off, 1), HBAD);
            stays(RICH, "height(0, 1, " + off + ")", x -> x.height(0, 1, off), HBAD);
            stays(RICH, "height(0, " + off + ", " + off + ")", x -> x.height(0, off, off), HBAD);
        }
        says(24, "BAD less 1000: also of no open cell");
        stays(RICH, "height(0, 0, 0)", x -> x.height(0, 0, 0), HBAD);
        stays(RICH, "height(0, 4, 0)", x -> x.height(0, 4, 0), HBAD);
        says(24, "NONE less that (-1004)");
        stays(RICH, "height(3, 1, 0)", x -> x.height(3, 1, 0), HNONE);
        stays(RICH, "height(3, 4, 4)", x -> x.height(3, 4, 4), HNONE);
        says(24, "NOT less that (-1002): not WHOLE");
        stays(HOLED, "height(0, 0, 0)", x -> x.height(0, 0, 0), HNOT);
        stays(HOLED, "height(1, 4, 4)", x -> x.height(1, 4, 4), HNOT);
        says(24, "BAD; NONE; NOT: of several the first");
        stays(RICH, "height(3, 5, 0): BAD, NONE", x -> x.height(3, 5, 0), HBAD);
        stays(RICH, "height(3, 0, 0): BAD, NONE", x -> x.height(3, 0, 0), HBAD);
        stays(HOLED, "height(0, -1, 0): BAD, NOT", x -> x.height(0, -1, 0), HBAD);
        stays(HOLED, "height(0, 2, 2): BAD, NOT", x -> x.height(0, 2, 2), HBAD);
        stays(HOLED, "height(4, 0, 0): BAD, NOT", x -> x.height(4, 0, 0), HBAD);
        stays(HOLED, "height(3, 0, 0): NONE, NOT", x -> x.height(3, 0, 0), HNONE);
        stays(HOLED, "height(3, 2, 2): BAD, NONE, NOT", x -> x.height(3, 2, 2), HBAD);
        says(24, "HEIGHT: 0 at the first of these by y, then x; along the rim");
        y = rich();
        int[][] rim = {{1, 0, 0}, {2, 0, 1}, {3, 0, 0}, {1, 1, -1}, {0, 1, -2}, {0, 2, -3}, {0, 3, -2}, {0, 4, -3}, {1, 4, -4}, {2, 4, -3},
            {3, 4, -4}, {4, 4, -3}, {4, 3, -2}, {4, 2, -3}, {4, 1, -2}, {3, 1, -1}};
        for (int[] at : rim) for (int s = 0; s < 3; s++) due("height(" + s + ", " + at[0] + ", " + at[1] + ")", y.height(s, at[0], at[1]), at[2]);
        says(24, "a side .. that does not cut a BRICK in two");
        due("height(0, 3, 2) between flat ones", y.height(0, 3, 2), -4);
        due("height(1, 3, 2) between upright ones", y.height(1, 3, 2), 0);
        says(24, "HEIGHT at CORNERS of the largest yard, of the least");
        y = new PavedYards();
        y.yard(8, 8);
        y.place(0, 0);
        due("height(0, 8, 8)", y.height(0, 8, 8), 0);
        due("height(0, 8, 0)", y.height(0, 8, 0), 0);
        due("height(0, 0, 8)", y.height(0, 0, 8), 0);
        due("height(0, 9, 8)", y.height(0, 9, 8), HBAD);
        due("height(0, 8, 9)", y.height(0, 8, 9), HBAD);
        y.yard(1, 2);
        y.place(0, 0);
        int[] column = {0, -1, 1, -2, 0, -1};
        for (int i = 0; i < 6; i++) due("height(0, " + i % 2 + ", " + i / 2 + ")", y.height(0, i % 2, i / 2), column[i]);
        due("height(0, 2, 0)", y.height(0, 2, 0), HBAD);
        due("height(0, 0, 3)", y.height(0, 0, 3), HBAD);
        says(24, "along a side .. west, north the other way");
        y = yardOf(".#.;.#.;...;...");
        y.place(0, 0);
        int[][] horns = {{0, 0, 0}, {1, 0, -1}, {1, 1, -2}, {1, 2, -1}, {2, 2, 0}, {2, 1, 1}, {2, 0, 0}, {3, 0, -1}, {3, 1, -2}, {3, 2, -1}};
        for (int[] at : horns) due("height(0, " + at[0] + ", " + at[1] + ")", y.height(0, at[0], at[1]), at[2]);
        y = yardOf(".##.;....");
        y.place(0, 0);
        int[][] bowl = {{0, 0, 0}, {1, 0, -1}, {1, 1, -2}, {2, 1, -3}, {3, 1, -2}, {3, 0, -1}, {4, 0, 0}, {4, 1, 1}, {0, 1, 1}};
        for (int[] at : bowl) due("height(0, " + at[0] + ", " + at[1] + ")", y.height(0, at[0], at[1]), at[2]);
        says(24, "CORNERS .. of open cells: of one alone (it is WHOLE, and no PAVING)");
        y = yardOf(".");
        for (int i = 0; i < 4; i++) due("height(0, " + i % 2 + ", " + i / 2 + ")", y.height(0, i % 2, i / 2), HNONE);
        due("height(0, 2, 0)", y.height(0, 2, 0), HBAD);
        due("height(0, 0, 2)", y.height(0, 0, 2), HBAD);
    }

    private static void promise25() {
        says(25, "BAD");
        for (int s : OFF_FOUR) stays(RICH, "turn(" + s + ", 3, 2)", x -> x.turn(s, 3, 2), BAD);
        says(25, "a CORNER x, y (0 .. W, 0 .. H) .. BAD");
        for (int off : new int[] {MIN, -1, 5, MAX}) {
            stays(RICH, "turn(0, " + off + ", 2)", x -> x.turn(0, off, 2), BAD);
            stays(RICH, "turn(0, 3, " + off + ")", x -> x.turn(0, 3, off), BAD);
        }
        says(25, "NONE");
        stays(RICH, "turn(3, 3, 2)", x -> x.turn(3, 3, 2), NONE);
        says(25, "NOT: not WHOLE");
        stays(HOLED, "turn(0, 1, 1)", x -> x.turn(0, 1, 1), NOT);
        Start loose = new Start("loose", () -> {
            PavedYards one = yardOf("..#.;..#.");
            one.place(0, 0);
            return one;
        });
        stays(loose, "turn(0, 1, 1) where two BRICKS lie so", x -> x.turn(0, 1, 1), NOT);
        says(25, "NOT: .. no two BRICKS lie so (four open cells around it)");
        int[][] rim = {{0, 0}, {4, 0}, {0, 4}, {4, 4}, {2, 0}, {0, 2}, {4, 2}, {2, 4}, {1, 1}, {3, 1}};
        for (int[] at : rim) stays(RICH, "turn(0, " + at[0] + ", " + at[1] + ")", x -> x.turn(0, at[0], at[1]), NOT);
        stays(RICH, "turn(0, 2, 1)", x -> x.turn(0, 2, 1), NOT);
        stays(RICH, "turn(0, 2, 2)", x -> x.turn(0, 2, 2), NOT);
        stays(RICH, "turn(1, 2, 3)", x -> x.turn(1, 2, 3), NOT);
        stays(RICH, "turn(2, 2, 2)", x -> x.turn(2, 2, 2), NOT);
        Start foot = new Start("foot", () -> {
            PavedYards one = yardOf("....;....;....;#..#");
            one.place(0, 0);
            return one;
        });
        stays(foot, "turn(0, 1, 3): the cell to the south-west is closed", x -> x.turn(0, 1, 3), NOT);
        stays(foot, "turn(0, 3, 3): the cell to the south-east is closed", x -> x.turn(0, 3, 3), NOT);
        stays(foot, "turn(0, 0, 4): of no open cell", x -> x.turn(0, 0, 4), NOT);
        says(25, "BAD; NONE; NOT: of several the first");
        stays(RICH, "turn(3, 5, 2): BAD, NONE", x -> x.turn(3, 5, 2), BAD);
        stays(RICH, "turn(3, 0, -1): BAD, NONE", x -> x.turn(3, 0, -1), BAD);
        stays(RICH, "turn(3, 0, 0): NONE, NOT", x -> x.turn(3, 0, 0), NONE);
        stays(RICH, "turn(4, 0, 0): BAD, NOT", x -> x.turn(4, 0, 0), BAD);
        stays(HOLED, "turn(4, 1, 1): BAD, NOT", x -> x.turn(4, 1, 1), BAD);
        stays(HOLED, "turn(0, 1, 5): BAD, NOT", x -> x.turn(0, 1, 5), BAD);
        stays(HOLED, "turn(3, 1, 1): NONE, NOT", x -> x.turn(3, 1, 1), NONE);
        says(25, "It goes UP, if HEIGHT there is more then, else DOWN: 1 UP, 0 DOWN");
        y = rich();
        due("turn(0, 3, 2)", y.turn(0, 3, 2), 1);
        due("rank(0)", y.rank(0), 1);
        due("turn(0, 3, 2) back", y.turn(0, 3, 2), 0);
        due("rank(0)", y.rank(0), 0);
        due("turn(0, 1, 2)", y.turn(0, 1, 2), 1);
        due("rank(0)", y.rank(0), 3);
        for (int s = 1; s < 3; s++) due("rank(" + s + ") stays", y.rank(s), s == 1 ? 1 : NOT);
        says(25, "a TURN at each CORNER with four open cells around it: the first, the last");
        y = new PavedYards();
        y.yard(8, 8);
        y.place(0, 0);
        due("turn(0, 1, 1)", y.turn(0, 1, 1), 0);
        due("brick(0, 0)", y.brick(0, 0), 1);
        due("brick(0, 9)", y.brick(0, 9), 3);
        due("turn(0, 7, 7)", y.turn(0, 7, 7), 0);
        due("brick(0, 63)", y.brick(0, 63), 111);
        due("turn(0, 8, 7)", y.turn(0, 8, 7), NOT);
        due("turn(0, 9, 7)", y.turn(0, 9, 7), BAD);
    }

    private static void promise26() {
        says(26, "BAD");
        for (int s : OFF_FOUR) stays(RICH, "turns(" + s + ", 1)", x -> x.turns(s, 1), BAD);
        says(26, "UP (1), DOWN (0) .. BAD");
        for (int up : OFF_TWO) stays(RICH, "turns(0, " + up + ")", x -> x.turns(0, up), BAD);
        says(26, "NONE");
        stays(RICH, "turns(3, 0)", x -> x.turns(3, 0), NONE);
        stays(RICH, "turns(3, 1)", x -> x.turns(3, 1), NONE);
        says(26, "NOT: not WHOLE");
        stays(HOLED, "turns(0, 0)", x -> x.turns(0, 0), NOT);
        stays(HOLED, "turns(0, 1)", x -> x.turns(0, 1), NOT);
        says(26, "BAD; NONE; NOT: of several the first");
        stays(RICH, "turns(3, 2): BAD, NONE", x -> x.turns(3, 2), BAD);
        stays(HOLED, "turns(0, -1): BAD, NOT", x -> x.turns(0, -1), BAD);
        stays(HOLED, "turns(4, 0): BAD, NOT", x -> x.turns(4, 0), BAD);
        stays(HOLED, "turns(3, 0): NONE, NOT", x -> x.turns(3, 0), NONE);
        stays(HOLED, "turns(3, 2): BAD, NONE, NOT", x -> x.turns(3, 2), BAD);
        says(26, "How many TURNS UP (1), DOWN (0) there are: none, one, more");
        stays(RICH, "turns(0, 1)", x -> x.turns(0, 1), 2);
        stays(RICH, "turns(0, 0)", x -> x.turns(0, 0), 2);
        y = rich();
        y.place(3, 5);
        due("turns(3, 1) of the HIGHEST", y.turns(3, 1), 0);
        due("turns(3, 0)", y.turns(3, 0), 1);
        y = new PavedYards();
        y.yard(8, 8);
        y.place(0, 0);
        due("turns(0, 0) of 8 by 8, all flat", y.turns(0, 0), 16);
        due("turns(0, 1)", y.turns(0, 1), 12);
        y.yard(8, 1);
        y.place(0, 0);
        due("turns(0, 0) of a row", y.turns(0, 0), 0);
        due("turns(0, 1) of a row", y.turns(0, 1), 0);
    }

    private static void promise27() {
        says(27, "BAD");
        for (int s : OFF_FOUR) stays(RICH, "settle(" + s + ", 1)", x -> x.settle(s, 1), BAD);
        says(27, "LOWEST (0), HIGHEST (1) .. BAD");
        for (int up : OFF_TWO) stays(RICH, "settle(0, " + up + ")", x -> x.settle(0, up), BAD);
        says(27, "NONE");
        stays(RICH, "settle(3, 0)", x -> x.settle(3, 0), NONE);
        stays(RICH, "settle(3, 1)", x -> x.settle(3, 1), NONE);
        says(27, "NOT");
        stays(HOLED, "settle(0, 0)", x -> x.settle(0, 0), NOT);
        stays(HOLED, "settle(1, 1)", x -> x.settle(1, 1), NOT);
        says(27, "BAD; NONE; NOT: of several the first");
        stays(RICH, "settle(3, 2): BAD, NONE", x -> x.settle(3, 2), BAD);
        stays(HOLED, "settle(0, -1): BAD, NOT", x -> x.settle(0, -1), BAD);
        stays(HOLED, "settle(4, 0): BAD, NOT", x -> x.settle(4, 0), BAD);
        stays(HOLED, "settle(3, 1): NONE, NOT", x -> x.settle(3, 1), NONE);
        stays(HOLED, "settle(3, 2): BAD, NONE, NOT", x -> x.settle(3, 2), BAD);
        says(27, "by TURNS DOWN as long as there are any (it is the same .. of any PAVING)");
        for (int up = 0; up < 2; up++) {
            for (int s = 0; s < 3; s++) {
                y = rich();
                y.settle(s, up);
                due("turns(" + s + ", " + up + ") behind", y.turns(s, up), 0);
                y.want(24, 0);
                y.want(21, 0);
                due("rank(" + s + ")", y.rank(s), up == 1 ? 11 : 2);
                due("settle(" + s + ", " + up + ") again", y.settle(s, up), 0);
            }
        }
        says(27, "how many TURNS");
        y = rich();
        y.keep(0, 3);
        int down = y.settle(3, 0);
        due("settle(3, 0) goes as far as far(0, 3)", down, y.far(0, 3));
        int up = y.settle(0, 1);
        due("settle(3, 1) goes down and up", y.settle(3, 1), down + up);
        y = new PavedYards();
        y.yard(2, 2);
        y.place(0, 0);
        due("settle(0, 1) of the HIGHEST", y.settle(0, 1), 0);
        due("settle(0, 0)", y.settle(0, 0), 1);
        due("settle(0, 0) of the LOWEST", y.settle(0, 0), 0);
        y.yard(8, 8);
        y.place(0, 0);
        y.settle(0, 0);
        due("settle(0, 1): the most that there are", y.settle(0, 1), 84);
        y.yard(8, 1);
        y.place(0, 0);
        due("settle(0, 1) where there are none", y.settle(0, 1), 0);
        due("rank(0)", y.rank(0), 0);
    }

    private static void promise28() {
        says(28, "BAD");
        for (int s : OFF_FOUR) {
            stays(RICH, "far(" + s + ", 0)", x -> x.far(s, 0), BAD);
            stays(RICH, "far(0, " + s + ")", x -> x.far(0, s), BAD);
            stays(RICH, "far(" + s + ", " + s + ")", x -> x.far(s, s), BAD);
        }
        says(28, "NONE");
        stays(RICH, "far(3, 0)", x -> x.far(3, 0), NONE);
        stays(RICH, "far(0, 3)", x -> x.far(0, 3), NONE);
        stays(RICH, "far(3, 3)", x -> x.far(3, 3), NONE);
        says(28, "NOT");
        stays(HOLED, "far(0, 1)", x -> x.far(0, 1), NOT);
        stays(HOLED, "far(0, 2) of like ones", x -> x.far(0, 2), NOT);
        stays(HOLED, "far(0, 0)", x -> x.far(0, 0), NOT);
        says(28, "BAD; NONE; NOT: of several the first");
        stays(RICH, "far(3, 4): BAD, NONE", x -> x.far(3, 4), BAD);
        stays(RICH, "far(-1, 3): BAD, NONE", x -> x.far(-1, 3), BAD);
        stays(HOLED, "far(0, 4): BAD, NOT", x -> x.far(0, 4), BAD);
        stays(HOLED, "far(4, 0): BAD, NOT", x -> x.far(4, 0), BAD);
        stays(HOLED, "far(3, 0): NONE, NOT", x -> x.far(3, 0), NONE);
        stays(HOLED, "far(0, 3): NONE, NOT", x -> x.far(0, 3), NONE);
        stays(HOLED, "far(3, 4): BAD, NONE, NOT", x -> x.far(3, 4), BAD);
        says(28, "the fewest TURNS from one to the other: none, one, more");
        stays(RICH, "far(0, 0)", x -> x.far(0, 0), 0);
        stays(RICH, "far(0, 1)", x -> x.far(0, 1), 1);
        stays(RICH, "far(1, 0)", x -> x.far(1, 0), 1);
        stays(RICH, "far(0, 2)", x -> x.far(0, 2), 2);
        stays(RICH, "far(2, 1)", x -> x.far(2, 1), 3);
        y = rich();
        y.keep(1, 3);
        due("far(1, 3) of like ones", y.far(1, 3), 0);
        says(28, "FAR (what was asked of a larger yard does not stay)");
        y = new PavedYards();
        y.yard(8, 8);
        y.place(0, 0);
        y.keep(0, 1);
        y.settle(0, 0);
        y.settle(1, 1);
        due("far(0, 1): the most that there is", y.far(0, 1), 84);
        due("far(1, 0)", y.far(1, 0), 84);
        y.yard(2, 2);
        y.place(0, 0);
        y.place(1, 1);
        due("far(0, 1) of two by two", y.far(0, 1), 1);
    }

    private static void promise29() {
        says(29, "BAD");
        for (int s : OFF_FOUR) {
            stays(RICH, "toward(" + s + ", 0)", x -> x.toward(s, 0), BAD);
            stays(RICH, "toward(0, " + s + ")", x -> x.toward(0, s), BAD);
            stays(RICH, "toward(" + s + ", " + s + ")", x -> x.toward(s, s), BAD);
        }
        says(29, "NONE: a SLOT holds none");
        stays(RICH, "toward(3, 0)", x -> x.toward(3, 0), NONE);
        stays(RICH, "toward(0, 3)", x -> x.toward(0, 3), NONE);
        stays(RICH, "toward(3, 3)", x -> x.toward(3, 3), NONE);
        says(29, "NOT: not WHOLE");
        stays(HOLED, "toward(0, 1)", x -> x.toward(0, 1), NOT);
        says(29, "NOT: .. or they are alike");
        stays(RICH, "toward(0, 0)", x -> x.toward(0, 0), NOT);
        stays(HOLED, "toward(0, 2)", x -> x.toward(0, 2), NOT);
        stays(and(RICH, "slot 1 as slot 0", x -> x.keep(0, 1)), "toward(0, 1)", x -> x.toward(0, 1), NOT);
        says(29, "BAD; NONE; NOT: of several the first");
        stays(RICH, "toward(3, 4): BAD, NONE", x -> x.toward(3, 4), BAD);
        stays(RICH, "toward(-1, 3): BAD, NONE", x -> x.toward(-1, 3), BAD);
        stays(HOLED, "toward(0, 4): BAD, NOT", x -> x.toward(0, 4), BAD);
        stays(HOLED, "toward(4, 0): BAD, NOT", x -> x.toward(4, 0), BAD);
        stays(HOLED, "toward(3, 0): NONE, NOT", x -> x.toward(3, 0), NONE);
        stays(HOLED, "toward(0, 3): NONE, NOT", x -> x.toward(0, 3), NONE);
        stays(HOLED, "toward(3, 3): NONE, NOT", x -> x.toward(3, 3), NONE);
        stays(HOLED, "toward(3, 4): BAD, NONE, NOT", x -> x.toward(3, 4), BAD);
        says(29, "The first CORNER by y, then x .. it is done: 16 y and x");
        y = rich();
        due("toward(0, 2)", y.toward(0, 2), 16 * 3 + 1);
        due("far(0, 2)", y.far(0, 2), 1);
        due("toward(0, 2)", y.toward(0, 2), 16 * 3 + 3);
        due("toward(0, 2) alike", y.toward(0, 2), NOT);
        dueText("slot 0", bricksIn(y, 0), "2 8 12 17 19 21 23");
        dueText("slot 2 stays", bricksIn(y, 2), "2 8 12 17 19 21 23");
        due("toward(2, 1): y goes ahead of x", y.toward(2, 1), 16 * 3 + 1);
        due("toward(2, 1)", y.toward(2, 1), 16 * 3 + 3);
        due("toward(2, 1)", y.toward(2, 1), 16 * 2 + 3);
        due("rank(2)", y.rank(2), 1);
        says(29, "16 y and x: at the first and the last CORNER");
        y = new PavedYards();
        y.yard(8, 8);
        y.place(0, 0);
        y.keep(0, 1);
        y.turn(1, 7, 7);
        y.turn(1, 1, 1);
        due("toward(0, 1)", y.toward(0, 1), 17);
        due("toward(0, 1)", y.toward(0, 1), 119);
        due("toward(0, 1)", y.toward(0, 1), NOT);
    }

    private static void promise30() {
        says(30, "BAD");
        for (int s : OFF_FOUR) stays(RICH, "lines(" + s + ")", x -> x.lines(s), BAD);
        says(30, "NONE");
        stays(RICH, "lines(3)", x -> x.lines(3), NONE);
        stays(HOLED, "lines(3)", x -> x.lines(3), NONE);
        says(30, "A LINE between column x - 1 and x (1 .. W - 1) .. as bits (bit x)");
        stays(RICH, "lines(0)", x -> x.lines(0), 0);
        stays(HOLED, "lines(0)", x -> x.lines(0), 1 << 2);
        stays(HOLED, "lines(1)", x -> x.lines(1), 1 << 1 | 1 << 3);
        lines("no LINE", ".;.", 0, 0);
        lines("no LINE", "#", 0, 0);
        lines("one LINE", "..", 0, 0);
        lines("one LINE", "..;..", 0, 0);
        lines("one LINE", "..;..", 1, 1 << 1);
        lines("no BRICKS", "##", 0, 1 << 1);
        lines("no BRICKS", "########", 0, 254);
        lines("eight columns", "........", 0, 1 << 2 | 1 << 4 | 1 << 6);
        lines("eight columns", "#......#", 0, 1 << 1 | 1 << 3 | 1 << 5 | 1 << 7);
        lines("the last LINE", "######..", 0, 126);
        y = new PavedYards();
        y.yard(8, 2);
        due("place(0, 33)", y.place(0, 33), 8);
        due("lines(0): all upright", y.lines(0), 254);
        y.yard(8, 8);
        y.place(0, 0);
        due("lines(0): all flat", y.lines(0), 84);
    }

    private static void lines(String what, String text, int rank, int want) {
        PavedYards one = yardOf(text);
        one.place(0, rank);
        due(what + ": lines(0) of " + text, one.lines(0), want);
    }

    private static void promise31() {
        says(31, "SOUND are PAVINGS .. that CROSS each LINE: where there is none, one, more");
        String[] texts = {"#", ".", ".;.", ".;.;.", "..", "##", "..;..", "...;...", "#..", "..#", "..#;#..", "...;...;..#", "....;....;....;....",
            "...;.#.;...", ".#;.#"};
        int[] sound = {1, 0, 1, 0, 1, 0, 1, 0, 0, 0, 1, 1, 3, 2, 0};
        for (int i = 0; i < texts.length; i++) {
            y = yardOf(texts[i]);
            due("sound() of " + texts[i], y.sound(), sound[i]);
            int crossed = 0;
            for (int r = 0; r < y.pavings(); r++) crossed += y.place(0, r) >= 0 && y.lines(0) == 0 ? 1 : 0;
            due("PAVINGS of " + texts[i] + " that lines() finds so", crossed, sound[i]);
        }
        says(31, "(MUST, MAY NOT do not matter)");
        stays(RICH, "sound()", PavedYards::sound, 12);
        stays(STUCK, "sound()", PavedYards::sound, 12);
        stays(HOLED, "sound()", PavedYards::sound, 0);
        says(31, "the longest yards");
        y = new PavedYards();
        y.yard(1, 8);
        due("sound() of a column", y.sound(), 1);
        y.yard(8, 1);
        due("sound() of a row", y.sound(), 0);
        y.yard(2, 8);
        due("sound() of two columns: all but that with none across", y.sound(), 33);
        y.yard(8, 2);
        due("sound() of two rows", y.sound(), 0);
    }

    private static void promise32() {
        says(32, "BAD");
        for (int s : OFF_FOUR) {
            stays(RICH, "rings(" + s + ", 0)", x -> x.rings(s, 0), BAD);
            stays(RICH, "rings(0, " + s + ")", x -> x.rings(0, s), BAD);
            stays(RICH, "rings(" + s + ", " + s + ")", x -> x.rings(s, s), BAD);
        }
        says(32, "NONE");
        stays(RICH, "rings(3, 0)", x -> x.rings(3, 0), NONE);
        stays(RICH, "rings(0, 3)", x -> x.rings(0, 3), NONE);
        stays(RICH, "rings(3, 3)", x -> x.rings(3, 3), NONE);
        says(32, "BAD; NONE: of both the first");
        for (int s : OFF_FOUR) {
            stays(RICH, "rings(3, " + s + ")", x -> x.rings(3, s), BAD);
            stays(RICH, "rings(" + s + ", 3)", x -> x.rings(s, 3), BAD);
        }
        says(32, "cells gone round by BRICKS of the one and the other in turn, four or more: none, one, more");
        stays(RICH, "rings(0, 0)", x -> x.rings(0, 0), 0);
        stays(RICH, "rings(0, 1)", x -> x.rings(0, 1), 1);
        stays(RICH, "rings(1, 2)", x -> x.rings(1, 2), 2);
        stays(HOLED, "rings(0, 2) of like ones", x -> x.rings(0, 2), 0);
        stays(HOLED, "rings(0, 1), though not WHOLE", x -> x.rings(0, 1), 1);
        y = yardOf("#");
        y.place(0, 0);
        y.place(1, 0);
        due("rings(0, 1) of no BRICKS", y.rings(0, 1), 0);
        y.yard(8, 8);
        y.place(0, 0);
        y.place(1, 12988815);
        due("rings(0, 1): the most that there are", y.rings(0, 1), 16);
    }

    private static void promise33() {
        says(33, "BAD");
        for (int s : OFF_FOUR) {
            stays(RICH, "ring(" + s + ", 0, 0)", x -> x.ring(s, 0, 0), BAD);
            stays(RICH, "ring(0, " + s + ", 0)", x -> x.ring(0, s, 0), BAD);
        }
        says(33, "BAD: also no such");
        for (int i : new int[] {MIN, -1, 1, 2, 63, 64, MAX}) stays(RICH, "ring(0, 1, " + i + ")", x -> x.ring(0, 1, i), BAD);
        for (int i : new int[] {MIN, -1, 2, 3, MAX}) stays(RICH, "ring(1, 2, " + i + ")", x -> x.ring(1, 2, i), BAD);
        for (int i : new int[] {-1, 0, 1}) stays(RICH, "ring(0, 0, " + i + ")", x -> x.ring(0, 0, i), BAD);
        says(33, "NONE");
        stays(RICH, "ring(3, 0, 0)", x -> x.ring(3, 0, 0), NONE);
        stays(RICH, "ring(0, 3, 0)", x -> x.ring(0, 3, 0), NONE);
        stays(RICH, "ring(3, 3, 0)", x -> x.ring(3, 3, 0), NONE);
        says(33, "BAD; NONE: of both the first");
        stays(RICH, "ring(3, 4, 0)", x -> x.ring(3, 4, 0), BAD);
        stays(RICH, "ring(-1, 3, 0)", x -> x.ring(-1, 3, 0), BAD);
        for (int i : new int[] {MIN, -1}) {
            stays(RICH, "ring(3, 0, " + i + ")", x -> x.ring(3, 0, i), BAD);
            stays(RICH, "ring(0, 3, " + i + ")", x -> x.ring(0, 3, i), BAD);
        }
        says(33, "How many cells RING i has .. four or more; numbered by their least cells");
        stays(RICH, "ring(0, 1, 0)", x -> x.ring(0, 1, 0), 4);
        stays(RICH, "ring(1, 2, 0)", x -> x.ring(1, 2, 0), 6);
        stays(RICH, "ring(1, 2, 1)", x -> x.ring(1, 2, 1), 4);
        stays(RICH, "ring(2, 1, 0)", x -> x.ring(2, 1, 0), 6);
        stays(HOLED, "ring(0, 1, 0)", x -> x.ring(0, 1, 0), 12);
        y = new PavedYards();
        y.yard(8, 8);
        y.place(0, 0);
        y.place(1, 12988815);
        due("ring(0, 1, 15)", y.ring(0, 1, 15), 4);
        due("ring(0, 1, 16)", y.ring(0, 1, 16), BAD);
        readText(y, "........;.######.;.######.;.######.;.######.;.######.;.######.;........");
        y.place(0, 0);
        y.place(1, 1);
        due("ring(0, 1, 0) along the rim", y.ring(0, 1, 0), 28);
    }

    private static void promise34() {
        says(34, "BAD");
        for (int s : OFF_FOUR) {
            stays(RICH, "wind(" + s + ", 0, 0)", x -> x.wind(s, 0, 0), BAD);
            stays(RICH, "wind(0, " + s + ", 0)", x -> x.wind(0, s, 0), BAD);
        }
        says(34, "BAD (there is no such RING)");
        for (int i : new int[] {MIN, -1, 1, 2, 63, 64, MAX}) stays(RICH, "wind(0, 1, " + i + ")", x -> x.wind(0, 1, i), BAD);
        for (int i : new int[] {MIN, -1, 2, 3, MAX}) stays(RICH, "wind(1, 2, " + i + ")", x -> x.wind(1, 2, i), BAD);
        for (int i : new int[] {-1, 0, 1}) stays(RICH, "wind(0, 0, " + i + ")", x -> x.wind(0, 0, i), BAD);
        says(34, "NONE");
        stays(RICH, "wind(3, 0, 0)", x -> x.wind(3, 0, 0), NONE);
        stays(RICH, "wind(0, 3, 0)", x -> x.wind(0, 3, 0), NONE);
        stays(RICH, "wind(3, 3, 0)", x -> x.wind(3, 3, 0), NONE);
        says(34, "BAD; NONE: of both the first");
        stays(RICH, "wind(3, 4, 0)", x -> x.wind(3, 4, 0), BAD);
        stays(RICH, "wind(-1, 3, 0)", x -> x.wind(-1, 3, 0), BAD);
        for (int i : new int[] {MIN, -1}) {
            stays(RICH, "wind(3, 0, " + i + ")", x -> x.wind(3, 0, i), BAD);
            stays(RICH, "wind(0, 3, " + i + ")", x -> x.wind(0, 3, i), BAD);
        }
        says(34, "a's PAVING has b's BRICKS on RING i: how many BRICKS became others");
        y = rich();
        due("wind(1, 2, 0)", y.wind(1, 2, 0), 3);
        dueText("slot 1", bricksIn(y, 1), "2 8 12 16 21 23 24");
        dueText("slot 2 stays", bricksIn(y, 2), "2 8 12 17 19 21 23");
        due("wind(1, 2, 1): it was 0 now", y.wind(1, 2, 1), BAD);
        due("wind(1, 2, 0)", y.wind(1, 2, 0), 2);
        dueText("slot 1", bricksIn(y, 1), "2 8 12 17 19 21 23");
        due("wind(1, 2, 0) of like ones", y.wind(1, 2, 0), BAD);
        y = rich();
        due("wind(2, 1, 1)", y.wind(2, 1, 1), 2);
        dueText("slot 2", bricksIn(y, 2), "2 8 12 16 21 23 24");
        dueText("slot 1 stays", bricksIn(y, 1), "2 8 13 15 16 24 28");
        y = holed();
        due("wind(0, 1, 0), though not WHOLE", y.wind(0, 1, 0), 6);
        dueText("slot 0", bricksIn(y, 0), "1 2 7 17 23 26");
        dueText("slot 1 stays", bricksIn(y, 1), "1 2 7 17 23 26");
        y = new PavedYards();
        y.yard(8, 8);
        y.place(0, 0);
        y.place(1, 12988815);
        due("wind(0, 1, 16)", y.wind(0, 1, 16), BAD);
        due("wind(0, 1, 15)", y.wind(0, 1, 15), 2);
        due("brick(0, 63)", y.brick(0, 63), 111);
        due("brick(0, 61)", y.brick(0, 61), 120);
    }

    // ---- 4 sheets

    private static void promise35() {
        says(35, "SHEETS 0 .. 3 .. BAD");
        for (int s : OFF_FOUR) stays(RICH, "sheet(" + s + ", 0, 1)", x -> x.sheet(s, 0, 1), BAD);
        says(35, "a LANE: 0 booleans, 1 bytes, 2 ints .. BAD");
        for (int lane : OFF_LANES) stays(RICH, "sheet(0, " + lane + ", 1)", x -> x.sheet(0, lane, 1), BAD);
        says(35, "BAD: also n above 64");
        for (int n : new int[] {65, 66, MAX}) {
            stays(RICH, "sheet(0, 0, " + n + ")", x -> x.sheet(0, 0, n), BAD);
            stays(RICH, "sheet(3, 2, " + n + ")", x -> x.sheet(3, 2, n), BAD);
        }
        says(35, "SIZE: n below 0");
        for (int n : new int[] {-1, -2, MIN}) {
            stays(RICH, "sheet(0, 0, " + n + ")", x -> x.sheet(0, 0, n), SIZE);
            stays(RICH, "sheet(3, 2, " + n + ")", x -> x.sheet(3, 2, n), SIZE);
        }
        says(35, "BAD; SIZE: of both the first");
        for (int s : OFF_FOUR) stays(RICH, "sheet(" + s + ", 0, -1)", x -> x.sheet(s, 0, -1), BAD);
        for (int lane : OFF_LANES) stays(RICH, "sheet(0, " + lane + ", -1)", x -> x.sheet(0, lane, -1), BAD);
        says(35, "of 0 to 64 items: n");
        for (int s = 0; s < 4; s++) {
            for (int lane = 0; lane < 3; lane++) {
                for (int n : new int[] {0, 1, 63, 64}) {
                    y = rich();
                    due("sheet(" + s + ", " + lane + ", " + n + ")", y.sheet(s, lane, n), n);
                    due("item beyond", y.item(s, lane, n, 1), INDEX);
                    due("the last item", n == 0 ? 1 : y.item(s, lane, n - 1, 1), 1);
                    due("of another LANE", y.item(s, (lane + 1) % 3, 0, 1), CAST);
                    due("drop(" + s + ")", y.drop(s), n);
                }
            }
        }
        says(35, "holds a new row (.. items: 0 at first)");
        y = rich();
        y.sheet(0, 0, 4);
        y.sheet(1, 1, 3);
        y.sheet(2, 2, 4);
        dueText("all of them", sheetsOf(y), ", sheet 0 lane 0: 0000, sheet 1 lane 1: 0 0 0 ?, sheet 2 lane 2: 0 0 0 0, sheet 3 lane -1:  4 3 4");
        y = rich();
        y.sheet(2, 2, 1);
        y.sheet(2, 2, 4);
        dueText("shorter in between", sheetsOf(y), ", sheet 0 lane 0: 1001, sheet 1 lane 1: 0 4 8 ?, sheet 2 lane 2: 0 0 0 0, sheet 3 lane -1:  4 3 4");
        y = rich();
        y.drop(2);
        y.sheet(2, 2, 4);
        dueText("dropped in between", sheetsOf(y), ", sheet 0 lane 0: 1001, sheet 1 lane 1: 0 4 8 ?, sheet 2 lane 2: 0 0 0 0, sheet 3 lane -1:  4 3 4");
    }

    private static void promise36() {
        says(36, "BAD");
        for (int s : OFF_FOUR) stays(RICH, "drop(" + s + ")", x -> x.drop(s), BAD);
        says(36, "NULL");
        stays(RICH, "drop(3)", x -> x.drop(3), NULL);
        says(36, "A SHEET holds nothing: how many items it had");
        for (int n : new int[] {0, 1, 63, 64}) {
            for (int s = 0; s < 4; s++) {
                y = rich();
                y.sheet(s, 1, n);
                due("drop(" + s + ")", y.drop(s), n);
                due("drop(" + s + ") again", y.drop(s), NULL);
                for (int lane = 0; lane < 3; lane++) due("item behind drop()", y.item(s, lane, 0, 0), NULL);
            }
        }
        stays(and(RICH, "SHEET 1 dropped", x -> x.drop(1)), "drop(1)", x -> x.drop(1), NULL);
    }

    private static void promise37() {
        says(37, "BAD");
        for (int s : OFF_FOUR) stays(RICH, "item(" + s + ", 0, 0, 1)", x -> x.item(s, 0, 0, 1), BAD);
        for (int lane : OFF_LANES) stays(RICH, "item(0, " + lane + ", 0, 0)", x -> x.item(0, lane, 0, 0), BAD);
        says(37, "NULL");
        for (int lane = 0; lane < 3; lane++) {
            int of = lane;
            stays(RICH, "item(3, " + lane + ", 0, 1)", x -> x.item(3, of, 0, 1), NULL);
        }
        says(37, "CAST");
        for (int s = 0; s < 3; s++) {
            int sheet = s;
            stays(RICH, "item(" + s + ", next lane, 0, 6)", x -> x.item(sheet, (sheet + 1) % 3, 0, 6), CAST);
            stays(RICH, "item(" + s + ", lane before, 0, 6)", x -> x.item(sheet, (sheet + 2) % 3, 0, 6), CAST);
        }
        says(37, "INDEX");
        for (int i : new int[] {MIN, -1, 4, 5, 64, MAX}) {
            stays(RICH, "item(0, 0, " + i + ", 0)", x -> x.item(0, 0, i, 0), INDEX);
            stays(RICH, "item(2, 2, " + i + ", 8)", x -> x.item(2, 2, i, 8), INDEX);
        }
        stays(RICH, "item(1, 1, 3, 8)", x -> x.item(1, 1, 3, 8), INDEX);
        due("item(1, 1, 2, 8)", rich().item(1, 1, 2, 8), 1);
        stays(and(RICH, "a row of none", x -> x.sheet(0, 0, 0)), "item(0, 0, 0, 1)", x -> x.item(0, 0, 0, 1), INDEX);
        says(37, "BAD; NULL; CAST; INDEX: of several the first");
        stays(RICH, "item(3, 3, 0, 1): BAD, NULL", x -> x.item(3, 3, 0, 1), BAD);
        stays(RICH, "item(0, -1, 9, 1): BAD, INDEX", x -> x.item(0, -1, 9, 1), BAD);
        stays(RICH, "item(4, 0, -1, 1): BAD, INDEX", x -> x.item(4, 0, -1, 1), BAD);
        stays(RICH, "item(3, 0, -1, 1): NULL, INDEX", x -> x.item(3, 0, -1, 1), NULL);
        stays(RICH, "item(3, 0, 64, 1): NULL, INDEX", x -> x.item(3, 0, 64, 1), NULL);
        stays(RICH, "item(0, 1, 4, 1): CAST, INDEX", x -> x.item(0, 1, 4, 1), CAST);
        stays(RICH, "item(1, 2, -1, 1): CAST, INDEX", x -> x.item(1, 2, -1, 1), CAST);
        says(37, "becomes v, its lowest bits");
        dueText("bytes", numbersOf(1, 256, 260, -252, MIN | 12), "0 4 4 12");
        dueText("bytes that are none of 0 .. 12", numbersOf(1, 255, 128, -128, 1), "? ? ? ?");
        dueText("ints", numbersOf(2, 256, 260, -252, MIN | 12), "? ? ? ?");
        dueText("ints", numbersOf(2, 0, 4, 6, 12), "0 4 6 12");
        says(37, "(booleans: whether v is not 0)");
        y = new PavedYards();
        sheetOf(y, 0, 0, 0, 1, 2, 256, -1, MIN, MAX, 0);
        dueText("booleans", booleansIn(y, 0), "01111110");
        says(37, "Item i .. becomes v: the others stay");
        y = rich();
        due("item(2, 2, 3, 10)", y.item(2, 2, 3, 10), 1);
        due("item(1, 1, 0, 10)", y.item(1, 1, 0, 10), 1);
        due("item(0, 0, 0, 0)", y.item(0, 0, 0, 0), 1);
        dueText("sheets", sheetsOf(y), ", sheet 0 lane 0: 0001, sheet 1 lane 1: 10 4 8 ?, sheet 2 lane 2: 12 2 6 10, sheet 3 lane -1:  4 3 4");
    }

    private static String numbersOf(int lane, int... items) {
        PavedYards one = new PavedYards();
        sheetOf(one, 0, lane, items);
        return numbersIn(one, 0, lane);
    }

    /** As rich, but SHEETS 1 and 2 are both rows of ints: of three items and of four. */
    private static Start twoRows() {
        return and(RICH, "two rows of ints", x -> sheetOf(x, 1, 2, 0, 4, 8));
    }

    private static void promise38() {
        Start two = twoRows();
        says(38, "BAD");
        for (int s : OFF_FOUR) {
            stays(RICH, "copy(" + s + ", 0, 0, 0, 1)", x -> x.copy(s, 0, 0, 0, 1), BAD);
            stays(RICH, "copy(0, 0, " + s + ", 0, 1)", x -> x.copy(0, 0, s, 0, 1), BAD);
            stays(RICH, "copy(" + s + ", 0, " + s + ", 0, 0)", x -> x.copy(s, 0, s, 0, 0), BAD);
        }
        says(38, "NULL (either)");
        stays(RICH, "copy(3, 0, 0, 0, 1)", x -> x.copy(3, 0, 0, 0, 1), NULL);
        stays(RICH, "copy(0, 0, 3, 0, 1)", x -> x.copy(0, 0, 3, 0, 1), NULL);
        stays(RICH, "copy(3, 0, 3, 0, 0)", x -> x.copy(3, 0, 3, 0, 0), NULL);
        for (int s = 0; s < 3; s++) {
            int other = s;
            stays(RICH, "copy(3, 0, " + s + ", 0, 1)", x -> x.copy(3, 0, other, 0, 1), NULL);
            stays(RICH, "copy(" + s + ", 0, 3, 0, 1)", x -> x.copy(other, 0, 3, 0, 1), NULL);
            Start dropped = and(RICH, "SHEET 2 dropped", x -> x.drop(2));
            stays(dropped, "copy(2, 0, " + s + ", 0, 1)", x -> x.copy(2, 0, other, 0, 1), NULL);
            stays(dropped, "copy(" + s + ", 0, 2, 0, 1)", x -> x.copy(other, 0, 2, 0, 1), NULL);
        }
        says(38, "CAST: of unlike LANES");
        for (int s = 0; s < 3; s++) {
            int from = s;
            stays(RICH, "copy(" + s + ", to the next)", x -> x.copy(from, 0, (from + 1) % 3, 0, 1), CAST);
            stays(RICH, "copy(" + s + ", to that before)", x -> x.copy(from, 0, (from + 2) % 3, 0, 0), CAST);
        }
        says(38, "INDEX: in the one, in the other, n");
        int[][] beyond = {{-1, 0, 1}, {0, -1, 1}, {0, 0, -1}, {4, 0, 1}, {0, 3, 1}, {2, 0, 3}, {1, 0, 4}, {0, 1, 3}, {0, 0, 4}, {5, 0, 0}, {0, 4, 0},
            {-1, 0, 0}, {0, -1, 0}, {MIN, 0, 1}, {0, MIN, 1}, {0, 0, MIN}, {MAX, 0, 1}, {0, MAX, 1}, {0, 0, MAX}, {1, 1, MAX}, {MAX, MAX, MAX},
            {MAX, 0, MIN}, {4, 3, -1}};
        for (int[] b : beyond) stays(two, "copy(2, " + b[0] + ", 1, " + b[1] + ", " + b[2] + ")", x -> x.copy(2, b[0], 1, b[1], b[2]), INDEX);
        stays(two, "copy(2, 0, 2, 2, 3) in itself", x -> x.copy(2, 0, 2, 2, 3), INDEX);
        stays(two, "copy(2, 2, 2, 0, 3) in itself", x -> x.copy(2, 2, 2, 0, 3), INDEX);
        says(38, "INDEX: not at the ends");
        stays(two, "copy(2, 4, 1, 3, 0)", x -> x.copy(2, 4, 1, 3, 0), 0);
        stays(two, "copy(2, 0, 1, 0, 0)", x -> x.copy(2, 0, 1, 0, 0), 0);
        copied("copy(2, 3, 1, 2, 1)", 2, 3, 1, 2, 1, "0 4 0 ?", "12 2 6 0");
        copied("copy(2, 0, 1, 0, 3)", 2, 0, 1, 0, 3, "12 2 6 ?", "12 2 6 0");
        copied("copy(2, 1, 1, 0, 3)", 2, 1, 1, 0, 3, "2 6 0 ?", "12 2 6 0");
        copied("copy(1, 0, 2, 1, 3)", 1, 0, 2, 1, 3, "0 4 8 ?", "12 0 4 8");
        copied("copy(1, 1, 2, 1, 2)", 1, 1, 2, 1, 2, "0 4 8 ?", "12 4 8 0");
        says(38, "BAD; NULL; CAST; INDEX: of several the first");
        stays(RICH, "copy(4, 0, 3, 0, 1): BAD, NULL", x -> x.copy(4, 0, 3, 0, 1), BAD);
        stays(RICH, "copy(3, 0, -1, 0, 1): BAD, NULL", x -> x.copy(3, 0, -1, 0, 1), BAD);
        stays(RICH, "copy(0, 9, 4, 0, 1): BAD, INDEX", x -> x.copy(0, 9, 4, 0, 1), BAD);
        stays(RICH, "copy(4, 0, 0, 0, -1): BAD, INDEX", x -> x.copy(4, 0, 0, 0, -1), BAD);
        stays(RICH, "copy(3, 0, 0, 4, 1): NULL, INDEX", x -> x.copy(3, 0, 0, 4, 1), NULL);
        stays(RICH, "copy(0, -1, 3, 0, 1): NULL, INDEX", x -> x.copy(0, -1, 3, 0, 1), NULL);
        stays(RICH, "copy(3, 0, 3, 0, -1): NULL, INDEX", x -> x.copy(3, 0, 3, 0, -1), NULL);
        stays(RICH, "copy(0, 4, 1, 0, 1): CAST, INDEX", x -> x.copy(0, 4, 1, 0, 1), CAST);
        stays(RICH, "copy(1, 0, 2, 4, 1): CAST, INDEX", x -> x.copy(1, 0, 2, 4, 1), CAST);
        stays(RICH, "copy(2, 0, 0, 0, -1): CAST, INDEX", x -> x.copy(2, 0, 0, 0, -1), CAST);
        says(38, "(or the same) .. as if all were taken ahead");
        copied("copy(2, 0, 2, 1, 3)", 2, 0, 2, 1, 3, "0 4 8 ?", "12 12 2 6");
        copied("copy(2, 1, 2, 0, 3)", 2, 1, 2, 0, 3, "0 4 8 ?", "2 6 0 0");
        copied("copy(2, 0, 2, 2, 2)", 2, 0, 2, 2, 2, "0 4 8 ?", "12 2 12 2");
        copied("copy(2, 0, 2, 0, 4)", 2, 0, 2, 0, 4, "0 4 8 ?", "12 2 6 0");
        says(38, "n items: 64 of them");
        y = new PavedYards();
        y.sheet(0, 0, 64);
        y.sheet(1, 0, 64);
        for (int i = 0; i < 64; i += 3) y.item(0, 0, i, 1);
        due("copy(0, 0, 1, 0, 65)", y.copy(0, 0, 1, 0, 65), INDEX);
        due("copy(0, 0, 1, 0, 64)", y.copy(0, 0, 1, 0, 64), 64);
        y.yard(8, 8);
        due("lay(0, 1, 0)", y.lay(0, 1, 0), 64);
        due("open cells", y.count(2), 22);
        due("the last cell", y.cell(63, true), 1);
        due("copy(0, 0, 0, 1, 63)", y.copy(0, 0, 0, 1, 63), 63);
        due("lay(0, 0, 0)", y.lay(0, 0, 0), 64);
        due("open cells: the first one twice, the last one gone", y.count(2), 22);
        due("cell 1", y.cell(1, true), 1);
        due("cell 63", y.cell(63, false), 0);
    }

    private static void copied(String call, int from, int i, int to, int j, int n, String one, String other) {
        y = twoRows().made.get();
        due(call, y.copy(from, i, to, j, n), n);
        dueText("sheets behind " + call, sheetsOf(y),
            ", sheet 0 lane 0: 1001, sheet 1 lane 2: " + one + ", sheet 2 lane 2: " + other + ", sheet 3 lane -1:  4 3 4");
    }
}
