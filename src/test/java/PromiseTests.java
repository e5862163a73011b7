/** Each promise by itself: ordinary inputs, the edges that the document names, wrong inputs. Answers worked out by hand. */
public final class PromiseTests {
    private static final int BAD = -1, NOT = -2, FULL = -3, NONE = -4, NULL = -11, CAST = -12, INDEX = -13, SIZE = -14;
    private static final int MIN = Integer.MIN_VALUE, MAX = Integer.MAX_VALUE;
    private static int wrong = 0;
    private static int asked = 0;
    private static PavedYards y;

    private static void due(String call, long got, long want) {
        asked++;
        if (got == want) return;
        wrong++;
        System.out.println(call + " answered " + got + ", due is " + want);
    }

    private static int typed(String text) {
        int n = 0;
        for (int at = 0; at < text.length(); at += 8) {
            int end = Math.min(text.length(), at + 8);
            long w = 0;
            for (int k = at; k < end; k++) w = w << 8 | text.charAt(k);
            n = y.type(w, end - at);
        }
        return n;
    }

    private static int readText(String text) {
        typed(text);
        return y.read();
    }

    private static int sheetOf(int sheet, int lane, int... items) {
        int n = y.sheet(sheet, lane, items.length);
        for (int i = 0; i < items.length; i++) y.item(sheet, lane, i, items[i]);
        return n;
    }

    private static String bricksIn(int slot) {
        StringBuilder all = new StringBuilder();
        for (int c = 0; c < y.count(0) * y.count(1); c++) {
            int b = y.brick(slot, c);
            if (b >= 0 && b / 2 == c) all.append(all.length() == 0 ? "" : " ").append(b);
        }
        return all.toString();
    }

    private static void dueText(String call, String got, String want) {
        due(call + " (" + got + ", due is " + want + ")", got.equals(want) ? 1 : 0, 1);
    }

    public static void main(String[] args) {
        promise1();
        promise2();
        promise3();
        promise4();
        promise5();
        promise5Faults();
        promise6();
        promise7();
        promise8();
        promise9();
        promises10And11();
        promise12();
        promises13To15();
        promises16And17();
        promise18();
        promise19();
        promises20To22();
        promise23();
        promise24();
        promises25And26();
        promise27();
        promises28And29();
        promises30And31();
        promises32To34();
        promise35();
        promise36();
        promise37();
        promise38();
        slotsAreEmptied();
        largestYard();
        System.out.println(asked + " answers asked, " + wrong + " wrong");
        if (wrong != 0) System.exit(1);
    }

    private static void promise1() {
        y = new PavedYards();
        due("1 W", y.count(0), 4);
        due("1 H", y.count(1), 4);
        due("1 open", y.count(2), 16);
        due("1 must", y.count(5), 0);
        due("1 may not", y.count(6), 0);
        due("1 slots", y.count(7), 0);
        due("1 tape", y.type(46, 1), 1);
        for (int i = 0; i < 4; i++) due("1 sheet", y.drop(i), NULL);
        for (int b = 0; b < 24; b++) if (b % 8 != 6) due("1 price " + b, y.price(b, 0), 0);
    }

    private static void promise2() {
        y = new PavedYards();
        due("2 1x1", y.yard(1, 1), 1);
        due("2 8x8", y.yard(8, 8), 64);
        due("2 5x3", y.yard(5, 3), 15);
        due("2 W", y.count(0), 5);
        due("2 H", y.count(1), 3);
        y.cell(14, false);
        y.want(0, 1);
        y.want(1, 2);
        y.price(2, 9);
        int[][] bad = {{0, 1}, {1, 0}, {9, 1}, {1, 9}, {-1, 4}, {4, -1}, {MIN, 1}, {1, MAX}, {MIN, MIN}};
        for (int[] b : bad) due("2 bad", y.yard(b[0], b[1]), BAD);
        due("2 bad leaves W", y.count(0), 5);
        due("2 bad leaves cells", y.count(2), 14);
        due("2 bad leaves must", y.count(5), 1);
        due("2 same again", y.yard(5, 3), 15);
        due("2 all open", y.count(2), 15);
        due("2 no must", y.count(5), 0);
        due("2 no may not", y.count(6), 0);
        due("2 price 0", y.price(2, 0), 0);
    }

    private static void promise3() {
        y = new PavedYards();
        due("3 stays open", y.cell(5, true), 1);
        due("3 closes", y.cell(5, false), 1);
        due("3 stays closed", y.cell(5, false), 0);
        due("3 opens", y.cell(5, true), 0);
        due("3 bad", y.cell(16, true), BAD);
        due("3 bad", y.cell(-1, false), BAD);
        due("3 bad", y.cell(MAX, false), BAD);
        due("3 last cell", y.cell(15, true), 1);
        int[] around = {8, 2, 10, 11, 3};
        for (int b : around) y.price(b, 7);
        for (int b : around) y.want(b, 2);
        y.cell(5, true);
        due("3 no change keeps may not", y.count(6), 5);
        y.cell(5, false);
        due("3 a brick elsewhere stays", y.count(6), 1);
        y.cell(5, true);
        due("3 price west went", y.price(8, 7), 0);
        due("3 price east went", y.price(10, 7), 0);
        due("3 price south went", y.price(11, 7), 0);
        due("3 price north went", y.price(3, 7), 0);
        due("3 price elsewhere stays", y.price(2, 7), 7);
        y.want(10, 1);
        y.cell(6, false);
        due("3 must of the second cell went", y.count(5), 0);
    }

    private static void promise4() {
        y = new PavedYards();
        due("4 n 0", y.type(46, 0), BAD);
        due("4 n 9", y.type(46, 9), BAD);
        due("4 n below", y.type(46, MIN), BAD);
        due("4 byte 31", y.type(31, 1), BAD);
        due("4 byte 127", y.type(127, 1), BAD);
        due("4 byte 0 above", y.type(46, 2), BAD);
        due("4 byte 255", y.type(-1L, 8), BAD);
        due("4 higher bytes do not matter", y.type(0xFF0000000000002EL, 1), 1);
        due("4 byte 126", y.type(126, 1), 2);
        due("4 byte 32", y.type(32, 1), 3);
        y.read();
        for (int n = 8; n <= 80; n += 8) due("4 eight", y.type(0x2020202020202020L, 8), n);
        due("4 three more than room", y.type(0x2020202020202020L >>> 8, 7), 87);
        due("4 full", y.type(0x20202020L, 4), FULL);
        due("4 bad ahead of full", y.type(0x2020201FL, 4), BAD);
        due("4 just full", y.type(0x202020L, 3), 90);
        due("4 full by one", y.type(0x20L, 1), FULL);
        due("4 the end", y.read(), -110);
        due("4 order of bytes", y.type(0x2E233BL, 3), 3);
        due("4 order of bytes", y.type(0x232EL, 2), 5);
        due("4 read", y.read(), 2);
        due("4 cell 0 open", y.cell(0, true), 1);
        due("4 cell 1 closed", y.cell(1, false), 0);
        due("4 cell 2 closed", y.cell(2, false), 0);
        due("4 cell 3 open", y.cell(3, true), 1);
    }

    private static void promise5() {
        y = new PavedYards();
        y.want(0, 1);
        y.price(2, 9);
        due("5 open cells", readText(" .#. ; ..# "), 4);
        due("5 W", y.count(0), 3);
        due("5 H", y.count(1), 2);
        due("5 no must", y.count(5), 0);
        due("5 tape is empty", y.type(46, 1), 1);
        due("5 one", y.read(), 1);
        due("5 eight long", readText("........"), 8);
        due("5 eight rows", readText(".;#;.;#;.;#;.;#"), 4);
        due("5 H 8", y.count(1), 8);
        due("5 largest", readText("........;........;........;........;........;........;........;........"), 64);
        due("5 like yard() for prices", y.price(2, 0), 0);
        due("5 all closed", readText("##;##"), 0);
    }

    private static void promise5Faults() {
        y = new PavedYards();
        y.want(0, 1);
        y.place(0, 0);
        String[] texts = {"", "   ", ";", " ;", ".;", ".;;", "..;.", "..;...", "..;.;", ".........", "x", "..x", ". . x", ". # ; . x",
            ".;.;.;.;.;.;.;.;.", "..;..;  ", "..; . ", "/", "..;..  .", ".;.;.;.;.;.;.;.;"};
        int[] places = {0, 3, 0, 1, 2, 2, 4, 5, 4, 8, 0, 2, 4, 8, 15, 8, 6, 0, 7, 15};
        for (int i = 0; i < texts.length; i++) {
            due("5 fault of '" + texts[i] + "'", readText(texts[i]), -20 - places[i]);
            due("5 the tape is empty behind a fault", y.type(32, 1), 1);
            y.read();
        }
        due("5 a fault leaves the yard", y.count(2), 16);
        due("5 a fault leaves must", y.count(5), 1);
        due("5 a fault leaves slots", y.count(7), 1);
    }

    private static void promise6() {
        y = new PavedYards();
        y.yard(3, 2);
        due("6 null", y.lay(0, 0, 0), NULL);
        due("6 bad sheet", y.lay(0, 4, 0), BAD);
        due("6 bad sheet", y.lay(0, -1, 0), BAD);
        due("6 bad cell ahead of null", y.lay(7, 0, 0), BAD);
        due("6 bad cell", y.lay(-1, 0, 0), BAD);
        sheetOf(0, 2, 0, 0);
        due("6 cast ahead of index", y.lay(0, 0, 9), CAST);
        sheetOf(0, 1, 0, 0);
        due("6 cast of bytes", y.lay(0, 0, 0), CAST);
        sheetOf(0, 0, 0, 1, 0);
        due("6 index", y.lay(0, 0, 4), INDEX);
        due("6 index below", y.lay(0, 0, -1), INDEX);
        due("6 index ahead of fewer cells", y.lay(6, 0, MAX), INDEX);
        due("6 fewer cells", y.lay(4, 0, 0), BAD);
        due("6 fewer cells leave all", y.count(2), 6);
        due("6 just enough", y.lay(4, 0, 1), 2);
        due("6 cell 4", y.cell(4, true), 1);
        due("6 cell 5", y.cell(5, false), 0);
        due("6 three", y.lay(0, 0, 0), 3);
        due("6 cell 0", y.cell(0, false), 0);
        due("6 cell 1", y.cell(1, true), 1);
        due("6 none at the end", y.lay(6, 0, 3), 0);
        due("6 none of an empty sheet", y.sheet(1, 0, 0) + y.lay(0, 1, 0), 0);
        y.yard(2, 2);
        y.want(0, 1);
        y.place(0, 0);
        sheetOf(2, 0, 1, 1);
        due("6 no cell becomes another", y.lay(0, 2, 0), 2);
        due("6 must stays", y.count(5), 1);
        due("6 slot stays", y.count(7), 1);
        sheetOf(2, 0, 0);
        y.lay(1, 2, 0);
        due("6 must goes", y.count(5), 0);
        due("6 slot goes", y.count(7), 0);
    }

    private static void promise7() {
        y = new PavedYards();
        readText("..#;...;.#.");
        long[] wants = {3, 3, 7, 4, 7, 0, 0, 0};
        for (int i = 0; i < 8; i++) due("7 count " + i, y.count(i), wants[i]);
        y.want(0, 1);
        y.want(3, 1);
        y.want(6, 2);
        due("7 must", y.count(5), 2);
        due("7 may not", y.count(6), 1);
        due("7 bad", y.count(8), BAD);
        due("7 bad", y.count(-1), BAD);
        due("7 bad", y.count(MIN), BAD);
        y.yard(8, 8);
        due("7 bricks of 8x8", y.count(4), 112);
        due("7 dark of 8x8", y.count(3), 32);
        y.yard(3, 3);
        due("7 dark of 3x3", y.count(3), 5);
    }

    private static void promise8() {
        y = new PavedYards();
        due("8 must", y.want(0, 1), 0);
        due("8 may not", y.want(0, 2), 1);
        due("8 neither", y.want(0, 0), 2);
        due("8 was neither", y.want(0, 0), 0);
        due("8 how", y.want(0, 3), BAD);
        due("8 how", y.want(0, -1), BAD);
        due("8 to the east of the last column", y.want(6, 1), BAD);
        due("8 to the south of the last row", y.want(25, 1), BAD);
        due("8 beyond", y.want(32, 1), BAD);
        due("8 below", y.want(-1, 1), BAD);
        due("8 below", y.want(MIN, 1), BAD);
        due("8 above", y.want(MAX, 1), BAD);
        y.cell(5, false);
        due("8 first cell closed", y.want(10, 1), BAD);
        due("8 second cell closed east", y.want(8, 1), BAD);
        due("8 second cell closed south", y.want(3, 1), BAD);
        due("8 brick beside", y.want(12, 1), 0);
        due("8 count", y.count(5), 1);
    }

    private static void promise9() {
        y = new PavedYards();
        due("9 price", y.price(30, 1), BAD);
        due("9 price", y.price(28, 999), 0);
        due("9 too dear", y.price(28, 1000), BAD);
        due("9 below 0", y.price(28, -1), BAD);
        due("9 was", y.price(28, 0), 999);
        due("9 no brick", y.price(6, 5), BAD);
        due("9 no brick", y.price(MIN, 5), BAD);
        due("9 no brick", y.price(MAX, 5), BAD);
        y.cell(5, false);
        due("9 closed", y.price(8, 5), BAD);
    }

    private static void promises10And11() {
        y = new PavedYards();
        due("10 4x4", y.pavings(), 36);
        y.want(0, 1);
        due("10 must", y.pavings(), 18);
        y.want(0, 2);
        due("10 may not", y.pavings(), 18);
        y.want(0, 1);
        y.want(2, 1);
        due("10 two that must on one cell", y.pavings(), 0);
        due("11 share of none", y.share(0), 0);
        y.want(2, 0);
        due("10 again", y.pavings(), 18);
        due("11 all", y.share(0), 18);
        due("11 barred by must", y.share(1), 0);
        due("11 the other side of 0", y.share(5), 18 - y.share(4));
        due("11 bad", y.share(6), BAD);
        due("11 bad", y.share(-1), BAD);
        due("11 bad", y.share(32), BAD);
        due("11 bad", y.share(MAX), BAD);
        y.yard(8, 8);
        due("10 8x8", y.pavings(), 12988816);
        due("11 corner brick", y.share(0), 6494408);
        y.yard(7, 7);
        due("10 odd", y.pavings(), 0);
        due("11 odd", y.share(0), 0);
        y.yard(2, 8);
        due("10 2x8", y.pavings(), 34);
        due("11 across the top of 2x8", y.share(0), 21);
        readText("###;###");
        due("10 nothing open", y.pavings(), 1);
        due("11 closed", y.share(0), BAD);
    }

    private static void promise12() {
        y = new PavedYards();
        due("12 4x4 in all", y.sure(0), 0);
        due("12 4x4 in none", y.sure(1), 0);
        due("12 bad", y.sure(2), BAD);
        due("12 bad", y.sure(-1), BAD);
        y.yard(6, 1);
        due("12 a row in all", y.sure(0), 3);
        due("12 a row in none", y.sure(1), 2);
        y.want(2, 1);
        due("12 none counted", y.sure(0), NONE);
        due("12 bad ahead of none", y.sure(3), BAD);
        y.want(2, 0);
        due("12 a row again", y.sure(0), 3);
        readText("...;###");
        due("12 not pavable", y.sure(1), NONE);
        readText("#");
        due("12 nothing open", y.sure(0), 0);
        due("12 nothing open", y.sure(1), 0);
    }

    private static void promises13To15() {
        y = new PavedYards();
        y.yard(2, 3);
        due("13 2x3", y.pavings(), 3);
        String[] order = {"0 4 8", "0 5 7", "1 3 8"};
        for (int r = 0; r < 3; r++) {
            due("13 place", y.place(r, r), 3);
            dueText("13 order " + r, bricksIn(r), order[r]);
            due("14 rank", y.rank(r), r);
        }
        due("13 no such", y.place(3, 3), BAD);
        due("13 no such", y.place(3, -1), BAD);
        due("13 no such", y.place(3, Long.MIN_VALUE), BAD);
        due("13 no such", y.place(3, Long.MAX_VALUE), BAD);
        due("13 no such beyond int", y.place(3, 1L << 32), BAD);
        due("13 bad slot", y.place(4, 0), BAD);
        due("13 bad slot", y.place(-1, 0), BAD);
        due("14 bad", y.rank(4), BAD);
        due("14 bad", y.rank(MIN), BAD);
        due("14 none", y.rank(3), NONE);
        due("15 south cell", y.brick(2, 5), 8);
        due("15 north brick", y.brick(2, 2), 1);
        due("15 none", y.brick(3, 0), NONE);
        due("15 bad slot", y.brick(4, 0), BAD);
        due("15 bad cell", y.brick(0, 6), BAD);
        due("15 bad cell", y.brick(0, -1), BAD);
        due("15 bad ahead of none", y.brick(3, 6), BAD);
        y.want(8, 1);
        due("14 rank among counted", y.rank(2), 1);
        due("14 not counted for must", y.rank(1), NOT);
        y.want(8, 2);
        due("14 not counted for may not", y.rank(0), NOT);
        due("14 counted", y.rank(1), 0);
        y.want(8, 0);
        due("14 counted again", y.rank(2), 2);
        y.cell(0, false);
        y.cell(1, false);
        due("13 closed cells", y.place(0, 1), 2);
        due("15 closed", y.brick(0, 0), BAD);
        due("15 behind closed", y.brick(0, 2), 5);
        readText("##");
        due("13 nothing open", y.place(2, 0), 0);
        due("14 nothing open", y.rank(2), 0);
        due("13 nothing open", y.place(2, 1), BAD);
    }

    private static void promises16And17() {
        y = new PavedYards();
        y.yard(2, 3);
        due("16 all like: the first", y.cheapest(0), 0);
        due("16 rank", y.rank(0), 0);
        y.price(0, 5);
        due("16 without brick 0", y.cheapest(1), 0);
        due("16 rank", y.rank(1), 2);
        due("17 the first", y.cost(0), 5);
        y.price(1, 2);
        y.price(3, 3);
        due("16 like sums: the first", y.cheapest(1), 5);
        due("16 rank", y.rank(1), 0);
        y.price(4, 999);
        due("16 the second", y.cheapest(1), 5);
        due("16 rank", y.rank(1), 1);
        due("17 dear", y.cost(0), 1004);
        y.want(7, 2);
        due("16 counted alone", y.cheapest(2), 5);
        due("16 rank", y.rank(2), 1);
        y.want(8, 2);
        due("16 none", y.cheapest(3), NONE);
        due("16 none leaves slot", y.count(7), 3);
        due("16 bad", y.cheapest(4), BAD);
        due("16 bad", y.cheapest(-1), BAD);
        due("17 bad", y.cost(4), BAD);
        due("17 none", y.cost(3), NONE);
        y.yard(8, 8);
        for (int b = 0; b < 128; b++) y.price(b, 999);
        due("16 dearest", y.cheapest(0), 31968);
        due("17 dearest", y.cost(0), 31968);
        due("16 rank", y.rank(0), 0);
    }

    private static void promise18() {
        y = new PavedYards();
        due("18 none", y.keep(0, 1), NONE);
        due("18 bad", y.keep(4, 0), BAD);
        due("18 bad ahead of none", y.keep(0, 4), BAD);
        due("18 bad", y.keep(-1, 0), BAD);
        y.place(0, 20);
        due("18 keep", y.keep(0, 3), 1);
        due("18 kept", y.rank(3), 20);
        y.place(0, 1);
        due("18 a copy of its own", y.rank(3), 20);
        due("18 itself", y.keep(3, 3), 1);
        due("18 over another", y.keep(3, 0), 1);
        due("18 over another", y.rank(0), 20);
        due("18 none to held", y.keep(2, 0), NONE);
        due("18 stays", y.rank(0), 20);
    }

    private static void promise19() {
        y = new PavedYards();
        y.yard(2, 2);
        due("19 null", y.bricks(0, 0, 1), NULL);
        due("19 lane 0", y.bricks(0, 0, 0), BAD);
        due("19 lane 3", y.bricks(0, 0, 3), BAD);
        due("19 sheet", y.bricks(0, 4, 1), BAD);
        due("19 slot", y.bricks(-1, 0, 1), BAD);
        sheetOf(0, 2, 4, 0);
        due("19 cast", y.bricks(0, 0, 1), CAST);
        due("19 ints in any order", y.bricks(0, 0, 2), 1);
        due("19 rank", y.rank(0), 0);
        sheetOf(1, 1, 257, 3);
        due("19 bytes take the lowest bits", y.bricks(1, 1, 1), 1);
        due("19 rank", y.rank(1), 1);
        int[][] none = {{0}, {0, 0}, {0, 1}, {0, 2}, {0, -4}, {0, MAX}, {MIN, 0}, {}, {0, 4, 4}, {0, 4, 8}};
        for (int[] items : none) {
            sheetOf(2, 2, items);
            due("19 no paving", y.bricks(1, 2, 2), NOT);
        }
        due("19 the slot stays", y.rank(1), 1);
        sheetOf(3, 0, 0, 0);
        due("19 cast of booleans", y.bricks(0, 3, 1), CAST);
        y.want(0, 2);
        due("19 may not does not matter", y.bricks(2, 0, 2), 1);
        due("19 it is not counted", y.rank(2), NOT);
        readText("#");
        y.sheet(0, 1, 0);
        due("19 no bricks on no open cells", y.bricks(0, 0, 1), 1);
        due("19 slot holds", y.count(7), 1);
        y.yard(8, 8);
        y.sheet(0, 1, 32);
        for (int c = 0; c < 32; c++) y.item(0, 1, c, 2 * (16 * (c / 8) + c % 8) + 1);
        due("19 all upright", y.bricks(0, 0, 1), 1);
        due("19 the last rank", y.rank(0), 12988815);
    }

    private static void promises20To22() {
        y = new PavedYards();
        due("20 4x4", y.most(), 8);
        y.want(0, 2);
        y.want(1, 2);
        due("20 may not does not matter", y.most(), 8);
        due("21 no doubt", y.bar(0, 0), 0);
        due("21 no doubt", y.bar(1, 1), 0);
        y.yard(3, 3);
        due("20 3x3", y.most(), 4);
        due("21 all dark", y.bar(0, 0), 5);
        due("21 all light", y.bar(0, 1), 4);
        due("21 other side", y.bar(1, 0), 0);
        due("22 dark", y.bars(0, 4), 2);
        due("22 light", y.bars(0, 3), 1);
        due("22 other side", y.bars(1, 4), 0);
        readText(".#.;#.#");
        due("20 alone", y.most(), 0);
        due("21 alone", y.bar(0, 0), 3);
        due("21 none beside", y.bar(0, 1), 0);
        due("22 alone", y.bars(0, 4), 2);
        due("22 closed", y.bars(0, 1), BAD);
        due("22 beyond", y.bars(0, 6), BAD);
        due("22 below", y.bars(0, -1), BAD);
        due("22 side", y.bars(2, 0), BAD);
        due("22 side", y.bars(-1, 0), BAD);
        due("21 side", y.bar(2, 0), BAD);
        due("21 side", y.bar(-1, 0), BAD);
        due("21 what", y.bar(0, 2), BAD);
        due("21 what", y.bar(0, -1), BAD);
        readText(".....;####.");
        due("20 both sides even", y.most(), 3);
        readText(".#.;...;.#.;###;#.#");
        due("20 an H and one alone", y.most(), 2);
        due("21 dark in doubt", y.bar(0, 0), 5);
        due("21 beside", y.bar(0, 1), 2);
        due("21 light in doubt", y.bar(1, 0), 1);
        due("21 none beside it", y.bar(1, 1), 0);
        due("22 middle", y.bars(0, 4), 2);
        due("22 tip", y.bars(0, 0), 2);
        due("22 between tips", y.bars(0, 3), 1);
        due("22 alone", y.bars(1, 13), 2);
        readText("..#.#...");
        due("20 two bricks and one alone", y.most(), 2);
        due("21 a brick without doubt", y.bar(1, 0), 3);
        due("22 no doubt", y.bars(1, 0), 0);
        due("22 no doubt", y.bars(1, 1), 0);
        due("22 beside", y.bars(1, 6), 1);
    }

    private static void promise23() {
        y = new PavedYards();
        due("23 4x4", y.whole(), 1);
        String[] wholes = {".", "..;..", ".#;..", "#.;..", "...;.#.", "#.#;...;#.#", "....;.##.;.#..", ".#..;.#.#;...#"};
        for (String text : wholes) {
            readText(text);
            due("23 whole " + text, y.whole(), 1);
        }
        String[] not = {"#", "##;##", ".#.", ".#;#.", "#.;.#", "...;.#.;...", "..#;.#.;...", "....;.##.;.##.;....",
            "....;.#..;..#.;....", ".;#;."};
        for (String text : not) {
            readText(text);
            due("23 not whole " + text, y.whole(), 0);
        }
    }

    private static void promise24() {
        y = new PavedYards();
        y.yard(2, 2);
        due("24 none", y.height(0, 0, 0), -1004);
        due("24 bad ahead of none", y.height(0, 3, 0), -1001);
        y.place(0, 0);
        y.place(1, 1);
        int[] flat = {0, -1, 0, 1, 2, 1, 0, -1, 0};
        int[] upright = {0, -1, 0, 1, -2, 1, 0, -1, 0};
        for (int i = 0; i < 9; i++) {
            due("24 flat " + i, y.height(0, i % 3, i / 3), flat[i]);
            due("24 upright " + i, y.height(1, i % 3, i / 3), upright[i]);
        }
        int[][] bad = {{4, 0, 0}, {-1, 0, 0}, {0, -1, 0}, {0, 0, -1}, {0, 3, 0}, {0, 0, 3}, {0, MIN, 0}, {0, 0, MAX}, {0, MAX, MIN}};
        for (int[] b : bad) due("24 bad", y.height(b[0], b[1], b[2]), -1001);
        readText("##..;##..;....;....");
        y.place(0, 0);
        due("24 first corner is not 0, 0", y.height(0, 2, 0), 0);
        due("24 of no open cell", y.height(0, 0, 0), -1001);
        due("24 of no open cell", y.height(0, 1, 1), -1001);
        due("24 corner of a closed cell, too", y.height(0, 2, 2), 0);
        due("24 to the west of that", y.height(0, 1, 2), -1);
        readText("##.;##.;...");
        due("24 not pavable", y.height(0, 2, 0), -1004);
        readText("..#..");
        y.place(0, 0);
        due("24 not whole", y.height(0, 0, 0), -1002);
        readText("#..");
        y.place(0, 0);
        due("24 first corner 1, 0", y.height(0, 1, 0), 0);
        due("24 east of a light cell's north", y.height(0, 2, 0), 1);
        due("24 south along a light cell", y.height(0, 1, 1), -1);
    }

    private static void promises25And26() {
        y = new PavedYards();
        y.yard(3, 2);
        y.place(0, 1);
        dueText("25 upright, then flat", bricksIn(0), "1 2 8");
        due("26 up", y.turns(0, 1), 1);
        due("26 down", y.turns(0, 0), 0);
        due("25 no two bricks so", y.turn(0, 1, 1), NOT);
        due("25 flat at 2, 1: x + y odd", y.turn(0, 2, 1), 1);
        dueText("25 all upright", bricksIn(0), "1 3 5");
        due("26 up", y.turns(0, 1), 1);
        due("26 down", y.turns(0, 0), 1);
        due("25 upright at 1, 1: x + y even", y.turn(0, 1, 1), 1);
        dueText("25 flat, then upright", bricksIn(0), "0 5 6");
        due("25 back", y.turn(0, 1, 1), 0);
        due("25 at the rim", y.turn(0, 3, 2), NOT);
        due("25 at the rim", y.turn(0, 0, 1), NOT);
        int[][] bad = {{4, 1, 1}, {-1, 1, 1}, {0, 4, 1}, {0, 1, 3}, {0, -1, 1}, {0, 1, -1}, {0, MAX, 1}, {0, 1, MIN}};
        for (int[] b : bad) due("25 bad", y.turn(b[0], b[1], b[2]), BAD);
        due("25 none", y.turn(1, 1, 1), NONE);
        due("26 none", y.turns(1, 1), NONE);
        due("26 bad", y.turns(0, 2), BAD);
        due("26 bad", y.turns(0, -1), BAD);
        due("26 bad", y.turns(4, 0), BAD);
        readText("..#;..#;##.;##.");
        y.place(0, 0);
        due("25 not whole", y.turn(0, 1, 1), NOT);
        due("26 not whole", y.turns(0, 0), NOT);
        readText("###..;###..;.....;.....");
        y.place(0, 0);
        due("25 around a closed corner", y.turn(0, 3, 2), NOT);
        due("25 of no open cell", y.turn(0, 1, 1), NOT);
    }

    private static void promise27() {
        y = new PavedYards();
        y.yard(3, 2);
        due("27 none", y.settle(0, 0), NONE);
        due("27 bad", y.settle(4, 0), BAD);
        due("27 bad", y.settle(0, 2), BAD);
        due("27 bad", y.settle(0, -1), BAD);
        y.place(0, 1);
        due("27 up", y.settle(0, 1), 2);
        dueText("27 highest", bricksIn(0), "0 5 6");
        due("27 up again", y.settle(0, 1), 0);
        due("27 down", y.settle(0, 0), 2);
        dueText("27 lowest", bricksIn(0), "1 2 8");
        y.yard(8, 8);
        y.place(0, 0);
        y.place(1, 12988815);
        y.settle(0, 0);
        y.settle(1, 0);
        due("27 the same lowest", y.rings(0, 1), 0);
        due("27 no turns down", y.turns(0, 0), 0);
        due("27 from lowest to highest", y.settle(1, 1), 84);
        due("28 lowest and highest of 8x8", y.far(0, 1), 84);
        readText("...;.#.;...");
        y.place(0, 0);
        due("27 not whole", y.settle(0, 0), NOT);
    }

    private static void promises28And29() {
        y = new PavedYards();
        y.yard(3, 2);
        due("28 none", y.far(0, 1), NONE);
        due("29 none", y.toward(0, 1), NONE);
        y.place(0, 1);
        due("28 none of the other", y.far(0, 1), NONE);
        due("29 none of the other", y.toward(1, 0), NONE);
        due("28 bad", y.far(0, 4), BAD);
        due("28 bad", y.far(-1, 0), BAD);
        due("29 bad", y.toward(0, 4), BAD);
        due("29 bad", y.toward(4, 0), BAD);
        y.place(1, 0);
        due("28 two", y.far(0, 1), 2);
        due("28 two back", y.far(1, 0), 2);
        due("28 itself", y.far(0, 0), 0);
        due("29 itself", y.toward(0, 0), NOT);
        due("29 first turn", y.toward(0, 1), 18);
        due("28 one", y.far(0, 1), 1);
        due("29 second turn", y.toward(0, 1), 17);
        due("29 alike", y.toward(0, 1), NOT);
        due("28 alike", y.far(0, 1), 0);
        due("29 b stays", y.rank(1), 0);
        readText("...;.#.;...");
        y.place(0, 0);
        y.place(1, 1);
        due("28 not whole", y.far(0, 1), NOT);
        due("29 not whole", y.toward(0, 1), NOT);
    }

    private static void promises30And31() {
        y = new PavedYards();
        due("30 none", y.lines(0), NONE);
        due("30 bad", y.lines(4), BAD);
        due("30 bad", y.lines(-1), BAD);
        due("31 4x4", y.sound(), 3);
        y.want(0, 2);
        y.want(1, 2);
        due("31 may not does not matter", y.sound(), 3);
        y.yard(3, 2);
        y.place(0, 0);
        dueText("30", bricksIn(0), "0 5 6");
        due("30 line 2", y.lines(0), 4);
        y.place(0, 1);
        due("30 line 1", y.lines(0), 2);
        y.place(0, 2);
        due("30 lines 1 and 2", y.lines(0), 6);
        due("31 3x2", y.sound(), 0);
        y.yard(1, 4);
        y.place(0, 0);
        due("30 no lines", y.lines(0), 0);
        due("31 no lines", y.sound(), 1);
        y.yard(2, 1);
        due("31 2x1", y.sound(), 1);
        y.yard(2, 2);
        due("31 2x2", y.sound(), 1);
        readText("#..");
        y.place(0, 0);
        due("30 a closed column", y.lines(0), 2);
        due("31 a closed column", y.sound(), 0);
        y.yard(1, 3);
        due("31 not pavable", y.sound(), 0);
        y.yard(8, 8);
        due("31 8x8", y.sound(), sound8());
    }

    /** Of eight full columns: all pavings, less those whose first line that is not crossed is line k. */
    private static long sound8() {
        long[] full = new long[9];
        for (int w = 1; w <= 8; w++) {
            double product = 1;
            for (int j = 1; j <= 4; j++) {
                for (int k = 1; k <= (w + 1) / 2; k++) {
                    double c = Math.cos(Math.PI * j / 9);
                    double d = Math.cos(Math.PI * k / (w + 1));
                    product *= 4 * c * c + 4 * d * d;
                }
            }
            full[w] = Math.round(product);
        }
        long[] sound = new long[9];
        for (int w = 1; w <= 8; w++) {
            sound[w] = full[w];
            for (int k = 1; k < w; k++) sound[w] -= sound[k] * full[w - k];
        }
        return sound[8];
    }

    private static void promises32To34() {
        y = new PavedYards();
        due("32 none", y.rings(0, 1), NONE);
        due("33 none", y.ring(0, 1, 0), NONE);
        due("34 none", y.wind(0, 1, 0), NONE);
        due("33 below, ahead of none", y.ring(0, 1, -1), BAD);
        due("34 below, ahead of none", y.wind(0, 1, MIN), BAD);
        y.place(0, 0);
        due("32 none of the other", y.rings(0, 1), NONE);
        due("33 none of the other", y.ring(0, 1, 0), NONE);
        due("34 none of the other", y.wind(1, 0, 0), NONE);
        due("33 below, ahead of none of the other", y.ring(1, 0, MIN), BAD);
        due("34 below, ahead of none of the other", y.wind(0, 1, -1), BAD);
        due("32 itself", y.rings(0, 0), 0);
        due("33 no such", y.ring(0, 0, 0), BAD);
        due("34 no such", y.wind(0, 0, 0), BAD);
        due("32 bad", y.rings(0, 4), BAD);
        due("32 bad", y.rings(-1, 0), BAD);
        due("33 bad", y.ring(4, 0, 0), BAD);
        due("34 bad", y.wind(0, -1, 0), BAD);
        y.want(1, 1);
        y.want(5, 1);
        y.want(7, 1);
        y.place(1, 0);
        y.want(1, 0);
        y.want(5, 0);
        y.want(7, 0);
        dueText("32 the other", bricksIn(1), "1 3 5 7 16 20 24 28");
        due("32 two rings", y.rings(0, 1), 2);
        due("33 first", y.ring(0, 1, 0), 4);
        due("33 second", y.ring(0, 1, 1), 4);
        due("33 no third", y.ring(0, 1, 2), BAD);
        due("33 below", y.ring(0, 1, MIN), BAD);
        due("34 no third", y.wind(0, 1, 2), BAD);
        due("34 below", y.wind(0, 1, -1), BAD);
        due("34 second", y.wind(0, 1, 1), 2);
        dueText("34 a", bricksIn(0), "0 5 7 8 16 20 24 28");
        dueText("34 b stays", bricksIn(1), "1 3 5 7 16 20 24 28");
        due("32 one left", y.rings(0, 1), 1);
        y.yard(4, 3);
        sheetOf(0, 1, 0, 4, 15, 18, 8, 11);
        due("32 a ring", y.bricks(0, 0, 1), NOT);
        readText("....;.##.;....");
        y.place(0, 0);
        y.place(1, 1);
        due("32 one ring", y.rings(0, 1), 1);
        due("33 ten cells", y.ring(0, 1, 0), 10);
        due("34 five bricks", y.wind(0, 1, 0), 5);
        due("34 a is b", y.rank(0), 1);
    }

    private static void promise35() {
        y = new PavedYards();
        due("35 none", y.sheet(0, 0, 0), 0);
        due("35 most", y.sheet(3, 2, 64), 64);
        due("35 above", y.sheet(0, 0, 65), BAD);
        due("35 above", y.sheet(0, 0, MAX), BAD);
        due("35 below", y.sheet(0, 0, -1), SIZE);
        due("35 below", y.sheet(0, 0, MIN), SIZE);
        due("35 bad ahead of size", y.sheet(4, 0, -1), BAD);
        due("35 bad ahead of size", y.sheet(0, 3, -1), BAD);
        due("35 bad", y.sheet(-1, 0, 1), BAD);
        due("35 bad", y.sheet(0, -1, 1), BAD);
        due("35 wrong ones leave it", y.drop(0), 0);
        y.yard(2, 2);
        sheetOf(1, 2, 1, 3);
        due("35 a new row", y.sheet(1, 2, 2), 2);
        due("35 is all 0", y.bricks(0, 1, 2), NOT);
        y.item(1, 2, 1, 4);
        due("35 item 0 is 0", y.bricks(0, 1, 2), 1);
        y.sheet(1, 0, 2);
        y.lay(0, 1, 0);
        due("35 booleans are false", y.count(2), 2);
    }

    private static void promise36() {
        y = new PavedYards();
        due("36 null", y.drop(0), NULL);
        due("36 bad", y.drop(4), BAD);
        due("36 bad", y.drop(-1), BAD);
        y.sheet(0, 1, 7);
        due("36 items", y.drop(0), 7);
        due("36 gone", y.drop(0), NULL);
        due("36 gone for item", y.item(0, 1, 0, 1), NULL);
    }

    private static void promise37() {
        y = new PavedYards();
        due("37 null", y.item(0, 0, 0, 0), NULL);
        due("37 bad sheet", y.item(4, 0, 0, 0), BAD);
        due("37 bad lane", y.item(0, 3, 0, 0), BAD);
        due("37 bad lane", y.item(0, -1, 0, 0), BAD);
        y.sheet(0, 1, 2);
        due("37 cast", y.item(0, 0, 9, 0), CAST);
        due("37 cast", y.item(0, 2, 0, 0), CAST);
        due("37 index", y.item(0, 1, 2, 0), INDEX);
        due("37 index", y.item(0, 1, -1, 0), INDEX);
        due("37 index", y.item(0, 1, MIN, 0), INDEX);
        y.yard(2, 2);
        due("37 lowest bits", y.item(0, 1, 0, 0x7FFFFF01), 1);
        due("37 lowest bits", y.item(0, 1, 1, -253), 1);
        due("37 1 and 3", y.bricks(0, 0, 1), 1);
        due("37 rank", y.rank(0), 1);
        y.item(0, 1, 0, 129);
        due("37 a byte below 0", y.bricks(0, 0, 1), NOT);
        sheetOf(1, 2, 257, 3);
        due("37 an int keeps all", y.bricks(0, 1, 2), NOT);
        sheetOf(2, 0, 256, MIN, 0, 1);
        y.lay(0, 2, 0);
        due("37 not 0 is true", y.count(2), 3);
        due("37 0 is false", y.cell(2, false), 0);
        y.sheet(3, 2, 0);
        due("37 index of none", y.item(3, 2, 0, 0), INDEX);
    }

    private static void promise38() {
        y = new PavedYards();
        sheetOf(0, 0, 1, 0, 0, 1, 0);
        due("38 null", y.copy(0, 0, 1, 0, 1), NULL);
        due("38 null", y.copy(1, 0, 0, 0, 1), NULL);
        due("38 bad", y.copy(0, 0, 4, 0, 1), BAD);
        due("38 bad", y.copy(-1, 0, 0, 0, 1), BAD);
        y.sheet(1, 1, 5);
        due("38 cast ahead of index", y.copy(0, 9, 1, 0, 1), CAST);
        y.sheet(1, 0, 3);
        int[][] beyond = {{-1, 0, 1}, {0, -1, 1}, {0, 0, -1}, {5, 0, 1}, {0, 3, 1}, {3, 0, 3}, {0, 1, 3}, {6, 0, 0}, {0, 4, 0},
            {MAX, 0, 1}, {0, MAX, 1}, {1, 1, MAX}, {MIN, 0, MIN}, {0, 0, 4}, {MAX, MAX, MAX}};
        for (int[] b : beyond) due("38 index", y.copy(0, b[0], 1, b[1], b[2]), INDEX);
        due("38 none at the ends", y.copy(0, 5, 1, 3, 0), 0);
        due("38 three", y.copy(0, 2, 1, 0, 3), 3);
        y.yard(3, 1);
        y.lay(0, 1, 0);
        due("38 three", 4 * y.cell(0, true) + 2 * y.cell(1, true) + y.cell(2, true), 2);
        due("38 to the right in itself", y.copy(0, 0, 0, 1, 4), 4);
        y.yard(5, 1);
        y.lay(0, 0, 0);
        long row = 0;
        for (int c = 0; c < 5; c++) row = 2 * row + y.cell(c, true);
        due("38 as if taken ahead: 1 1 0 0 1", row, 25);
        due("38 to the left in itself", y.copy(0, 1, 0, 0, 4), 4);
        y.lay(0, 0, 0);
        row = 0;
        for (int c = 0; c < 5; c++) row = 2 * row + y.cell(c, true);
        due("38 as if taken ahead: 1 0 0 1 1", row, 19);
    }

    /** Every row inside is full: what goes beyond one shows here. */
    private static void largestYard() {
        y = new PavedYards();
        y.yard(8, 8);
        for (int what = 0; what < 8; what++) due("8x8 count " + what, y.count(what), new int[] {8, 8, 64, 32, 112, 0, 0, 0}[what]);
        for (int b = 126; b < 131; b++) {
            due("8x8 want " + b, y.want(b, 1), BAD);
            due("8x8 price " + b, y.price(b, 1), BAD);
            due("8x8 share " + b, y.share(b), BAD);
        }
        due("8x8 last brick", y.want(124, 1), 0);
        due("8x8 last upright brick", y.want(111, 2), 0);
        due("8x8 must", y.count(5), 1);
        due("8x8 may not", y.count(6), 1);
        due("8x8 last cell", y.cell(63, false), 1);
        due("8x8 must went", y.count(5), 0);
        due("8x8 may not went", y.count(6), 0);
        due("8x8 without the last", y.sure(0), NONE);
        due("8x8 without the last", y.bar(1, 0), 32);
        due("8x8 without the last", y.bar(1, 1), 31);
        due("8x8 last cell", y.bars(1, 62), 2);
        due("8x8 not pavable", y.sound(), 0);
        due("8x8 whole", y.whole(), 1);
        due("8x8 last cell", y.cell(63, true), 0);
        due("8x8 beyond", y.cell(64, true), BAD);
        due("8x8 sure", y.sure(0), 0);
        due("8x8 last", y.place(0, 12988815), 32);
        due("8x8 last corner", y.height(0, 8, 8), 0);
        due("8x8 beyond", y.height(0, 9, 8), -1001);
        due("8x8 beyond", y.height(0, 8, 9), -1001);
        due("8x8 turn at the last corner", y.turn(0, 8, 8), NOT);
        due("8x8 turn inside", y.turn(0, 7, 7), 1);
        due("8x8 beyond", y.turn(0, 8, 9), BAD);
        due("8x8 cheapest", y.cheapest(1), 0);
        due("8x8 lines", y.lines(1), 84);
        due("8x8 rings", y.rings(0, 1), 15);
        for (int i = 0; i < 64; i++) y.cell(i, false);
        due("8x8 all closed", y.pavings(), 1);
        due("8x8 all closed", y.count(4), 0);
        due("8x8 all closed", y.whole(), 0);
        y.sheet(0, 0, 64);
        for (int i = 0; i < 64; i++) y.item(0, 0, i, 1);
        due("8x8 laid", y.lay(0, 0, 0), 64);
        due("8x8 laid at the end", y.lay(64, 0, 64), 0);
        due("8x8 laid beyond", y.lay(65, 0, 64), BAD);
        due("8x8 laid", y.pavings(), 12988816);
    }

    private static void slotsAreEmptied() {
        y = new PavedYards();
        for (int i = 0; i < 4; i++) y.place(i, i);
        due("slots", y.count(7), 4);
        y.want(0, 1);
        y.price(0, 5);
        y.cell(0, true);
        y.yard(9, 9);
        y.read();
        due("slots stay", y.count(7), 4);
        y.cell(0, false);
        due("emptied by cell()", y.count(7), 0);
        y.cell(0, true);
        y.place(1, 0);
        y.yard(4, 4);
        due("emptied by yard()", y.count(7), 0);
        y.place(1, 0);
        readText("....;....;....;....");
        due("emptied by read()", y.count(7), 0);
    }
}
