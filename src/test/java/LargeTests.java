import java.util.Arrays;
import java.util.HashMap;
import java.util.Map;
import java.util.Random;

/** Yards up to 8 by 8: counts by a memory of cell sets, and what must hold between calls. Seeds are fixed. */
public final class LargeTests {
    private static int wrong = 0;
    private static long asked = 0;
    private static PavedYards y;
    private static String yardText = "";
    private static int w;
    private static int h;
    private static long open;
    private static final int[] want = new int[128];
    private static final int[] price = new int[128];

    private static void due(String call, long got, long expected) {
        asked++;
        if (got == expected) return;
        if (wrong++ < 20) System.out.println(yardText + ": " + call + " answered " + got + ", due is " + expected);
    }

    public static void main(String[] args) {
        for (int seed = 0; seed < 150; seed++) {
            Random chance = new Random(seed);
            makeYard(chance, seed);
            counts(chance);
            places(chance);
            prices(chance);
            heights(chance);
        }
        System.out.println(asked + " answers asked, " + wrong + " wrong");
        if (wrong != 0) System.exit(1);
    }

    private static void makeYard(Random chance, int seed) {
        w = seed % 5 == 0 ? 8 : 4 + chance.nextInt(5);
        h = seed % 5 == 0 ? 8 : 4 + chance.nextInt(5);
        open = -1L >>> 64 - w * h;
        int bricksClosed = seed % 3 == 0 ? 0 : chance.nextInt(9);
        for (int k = 0; k < bricksClosed; k++) {
            int c = chance.nextInt(w * h);
            int d = chance.nextBoolean() ? (c % w + 1 < w ? c + 1 : -1) : c + w < w * h ? c + w : -1;
            if (d < 0) continue;
            close(c);
            close(d);
        }
        if (chance.nextInt(4) == 0) close(chance.nextInt(w * h));
        Arrays.fill(want, 0);
        Arrays.fill(price, 0);
        yardText = "seed " + seed + ", " + w + " by " + h;
    }

    private static void close(int c) {
        open &= ~(1L << c);
    }

    /** Another object for the same yard: one alone would have more than its 512 calls. */
    private static void startAgain() {
        y = new PavedYards();
        y.yard(w, h);
        for (int c = 0; c < w * h; c++) if ((open >> c & 1) == 0) y.cell(c, false);
        for (int b = 0; b < 128; b++) {
            if (want[b] != 0) y.want(b, want[b]);
            if (price[b] != 0) y.price(b, price[b]);
        }
    }

    private static int second(int b) {
        int c = b / 2;
        if (c >= w * h || (open >> c & 1) == 0) return -1;
        int d = b % 2 == 1 ? c + w : c % w + 1 < w ? c + 1 : -1;
        return d >= 0 && d < w * h && (open >> d & 1) == 1 ? d : -1;
    }

    /** What is asked of each way to pave a set of cells. */
    private static final class Memory {
        final Map<Long, Long> known = new HashMap<>();
        final boolean[] barred = new boolean[128];

        long ways(long left) {
            if (left == 0) return 1;
            Long was = known.get(left);
            if (was != null) return was;
            int c = Long.numberOfTrailingZeros(left);
            long n = 0;
            for (int b = 2 * c; b < 2 * c + 2; b++) {
                int d = second(b);
                if (d >= 0 && !barred[b] && (left >> d & 1) == 1) n += ways(left & ~(1L << c | 1L << d));
            }
            known.put(left, n);
            return n;
        }

        long least(long left) {
            if (left == 0) return 0;
            Long was = known.get(left);
            if (was != null) return was;
            int c = Long.numberOfTrailingZeros(left);
            long best = 1000000;
            for (int b = 2 * c; b < 2 * c + 2; b++) {
                int d = second(b);
                if (d >= 0 && !barred[b] && (left >> d & 1) == 1) best = Math.min(best, price[b] + least(left & ~(1L << c | 1L << d)));
            }
            known.put(left, best);
            return best;
        }

        long most(long left) {
            if (left == 0) return 0;
            Long was = known.get(left);
            if (was != null) return was;
            int c = Long.numberOfTrailingZeros(left);
            long best = most(left & ~(1L << c));
            for (int b = 2 * c; b < 2 * c + 2; b++) {
                int d = second(b);
                if (d >= 0 && (left >> d & 1) == 1) best = Math.max(best, 1 + most(left & ~(1L << c | 1L << d)));
            }
            known.put(left, best);
            return best;
        }
    }

    /** Ways with a brick are ways without its cells; a brick that must be is taken out ahead. */
    private static long counted(int with) {
        Memory m = new Memory();
        long left = open;
        for (int b = 0; b < 128; b++) {
            m.barred[b] = want[b] == 2;
            if (want[b] != 1 && b != with) continue;
            long both = 1L << b / 2 | 1L << second(b);
            if ((left & both) != both || want[b] == 2) return 0;
            left &= ~both;
        }
        return m.ways(left);
    }

    private static void counts(Random chance) {
        startAgain();
        int most = y.most();
        due("pavings()", y.pavings(), counted(-1));
        due("most()", most, new Memory().most(open));
        long sound = 0;
        for (int lines = 0; lines < 1 << w; lines += 2) {
            Memory m = new Memory();
            for (int b = 0; b < 2 * w * h; b += 2) m.barred[b] = (lines >> b / 2 % w + 1 & 1) == 1;
            sound += Integer.bitCount(lines) % 2 == 0 ? m.ways(open) : -m.ways(open);
        }
        due("sound()", y.sound(), sound);
        for (int side = 0; side < 2; side++) {
            int doubts = 0;
            for (int c = 0; c < w * h; c++) {
                if ((open >> c & 1) == 0) continue;
                boolean doubt = (c % w + c / w) % 2 == side && new Memory().most(open & ~(1L << c)) == most;
                due("bars(" + side + ", " + c + ") is 2", y.bars(side, c) == 2 ? 1 : 0, doubt ? 1 : 0);
                doubts += doubt ? 1 : 0;
            }
            due("bar(" + side + ", 0)", y.bar(side, 0), doubts);
        }
        for (int k = 0; k < 4; k++) {
            int b = chance.nextInt(2 * w * h);
            if (second(b) < 0) continue;
            due("share(" + b + ")", y.share(b), counted(b));
            want[b] = 1 + chance.nextInt(2);
            y.want(b, want[b]);
            due("pavings()", y.pavings(), counted(-1));
        }
        startAgain();
        long pavings = y.pavings();
        int all = 0;
        int none = 0;
        for (int b = 0; b < 2 * w * h; b++) {
            if (second(b) < 0) continue;
            long n = counted(b);
            due("share(" + b + ")", y.share(b), n);
            if (n == 0) none++;
            if (n == pavings) all++;
        }
        due("sure(0)", y.sure(0), pavings == 0 ? -4 : all);
        due("sure(1)", y.sure(1), pavings == 0 ? -4 : none);
    }

    private static void places(Random chance) {
        long n = y.pavings();
        due("place(0, n)", y.place(0, n), -1);
        for (int k = 0; k < 12 && n > 0; k++) {
            startAgain();
            long rank = k == 0 ? 0 : k == 1 ? n - 1 : (long) (chance.nextDouble() * n);
            due("place(0, " + rank + ")", y.place(0, rank), Long.bitCount(open) / 2);
            due("rank(0)", y.rank(0), rank);
            y.sheet(0, 2, Long.bitCount(open) / 2);
            int i = 0;
            for (int c = 0; c < w * h; c++) {
                if ((open >> c & 1) == 1 && y.brick(0, c) / 2 == c) y.item(0, 2, i++, y.brick(0, c));
            }
            due("bricks(1, 0, 2)", y.bricks(1, 0, 2), 1);
            due("rank(1)", y.rank(1), rank);
            y.place(2, (rank + 1) % n);
            due("the next is behind", n > 1 && rank < n - 1 ? order(0, 2) : 1, 1);
        }
    }

    /** 1, if the paving of the first slot is ahead. */
    private static int order(int a, int b) {
        for (int c = 0; c < w * h; c++) {
            if ((open >> c & 1) == 1 && y.brick(a, c) != y.brick(b, c)) return y.brick(a, c) == 2 * c ? 1 : -1;
        }
        return 0;
    }

    private static void prices(Random chance) {
        int dearest = chance.nextBoolean() ? 3 : 1000;
        for (int b = 0; b < 2 * w * h; b++) {
            if (second(b) < 0) continue;
            price[b] = chance.nextInt(dearest);
        }
        startAgain();
        if (y.pavings() == 0) {
            due("cheapest(0)", y.cheapest(0), -4);
            return;
        }
        Memory m = new Memory();
        for (int b = 0; b < 128; b++) {
            m.barred[b] = want[b] == 2;
            for (int k = 0; k < 128; k++) if (want[k] == 1 && k != b && second(b) >= 0 && touch(b, k)) m.barred[b] = true;
        }
        long least = m.least(open);
        due("cheapest(0)", y.cheapest(0), least);
        due("cost(0)", y.cost(0), least);
        long left = open;
        for (int c = 0; c < w * h; c++) {
            if ((left >> c & 1) == 0) continue;
            int b = 2 * c;
            long behind = second(b) < 0 ? 0 : left & ~(1L << c | 1L << second(b));
            boolean east = second(b) >= 0 && !m.barred[b] && (left >> second(b) & 1) == 1 && price[b] + m.least(behind) == m.least(left);
            due("the first of the cheapest on " + c, y.brick(0, c), east ? b : b + 1);
            left &= ~(1L << c | 1L << second(east ? b : b + 1));
        }
    }

    private static boolean touch(int a, int b) {
        return a / 2 == b / 2 || a / 2 == second(b) || second(a) == b / 2 || second(a) == second(b);
    }

    private static void heights(Random chance) {
        Arrays.fill(want, 0);
        Arrays.fill(price, 0);
        startAgain();
        long n = y.pavings();
        if (n == 0 || y.whole() == 0) return;
        y.place(0, (long) (chance.nextDouble() * n));
        y.place(1, (long) (chance.nextDouble() * n));
        int far = y.far(0, 1);
        due("far(1, 0)", y.far(1, 0), far);
        y.keep(0, 2);
        for (int k = far; k > 0; k--) {
            int at = y.toward(2, 1);
            due("toward tells a corner", at >= 17 && at % 16 < w && at / 16 < h ? 1 : 0, 1);
            due("toward comes nearer by one", y.far(2, 1), k - 1);
        }
        due("toward(2, 1) at the end", y.toward(2, 1), -2);
        due("rings at the end", y.rings(2, 1), 0);
        for (int up = 0; up < 2; up++) {
            y.keep(0, 2);
            y.keep(1, 3);
            int turns = y.settle(2, up);
            y.settle(3, up);
            due("settled alike", y.rings(2, 3), 0);
            due("no turns are left", y.turns(2, up), 0);
            due("turns of settle are far", y.far(0, 2), turns);
        }
        winding();
    }

    private static void winding() {
        int rings = y.rings(0, 1);
        int cells = 0;
        int differ = 0;
        for (int i = 0; i < rings; i++) cells += y.ring(0, 1, i);
        for (int c = 0; c < w * h; c++) if ((open >> c & 1) == 1 && y.brick(0, c) != y.brick(1, c)) differ++;
        due("cells of all rings", cells, differ);
        for (int i = rings - 1; i >= 0; i--) {
            int size = y.ring(0, 1, i);
            due("wind(0, 1, " + i + ")", y.wind(0, 1, i), size / 2);
            due("rings left", y.rings(0, 1), i);
        }
        due("alike at the end", y.far(0, 1), 0);
    }
}
