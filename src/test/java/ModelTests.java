import java.util.ArrayDeque;
import java.util.ArrayList;
import java.util.Arrays;
import java.util.HashMap;
import java.util.HashSet;
import java.util.List;
import java.util.Map;
import java.util.Random;
import java.util.Set;
import java.util.TreeMap;
import java.util.TreeSet;

/**
 * Long runs of calls on small yards, against a slow model that tries all pavings and follows the
 * document's words one by one. Seeds are fixed: the same runs each time.
 */
public final class ModelTests {
    private static final int BAD = -1, NOT = -2, FULL = -3, NONE = -4, NULL = -11, CAST = -12, INDEX = -13, SIZE = -14;
    // One step is up to some 30 calls, and an object has 512.
    private static final int RUNS = 620, CALLS = 480;

    public static void main(String[] args) {
        int wrong = 0;
        long asked = 0;
        Map<String, Integer> answers = new TreeMap<>();
        for (int run = 0; run < RUNS && wrong < 5; run++) {
            Run r = new Run(run, answers);
            while (r.told.size() < CALLS && !r.failed) r.call();
            asked += r.told.size();
            if (r.failed) wrong++;
        }
        System.out.println(asked + " calls in " + RUNS + " runs, " + wrong + " runs wrong");
        if (args.length > 0) answers.forEach((k, v) -> System.out.println(k + " " + v));
        if (wrong != 0) System.exit(1);
    }

    /** One run: calls drawn by chance, each put to the program and to the model. */
    private static final class Run {
        final Random chance;
        final int number;
        final PavedYards program = new PavedYards();
        final Model model = new Model();
        final List<String> told = new ArrayList<>();
        final Map<String, Integer> answers;
        boolean failed;

        Run(int number, Map<String, Integer> answers) {
            this.number = number;
            this.answers = answers;
            chance = new Random(number);
        }

        void due(String call, long got, long want) {
            told.add(call + " = " + got);
            String name = call.substring(0, call.indexOf('(')) + (want < 0 ? " " + want : " 0..");
            answers.merge(name, 1, Integer::sum);
            if (got == want) return;
            failed = true;
            System.out.println("run " + number + ", yard " + model.text() + ", must/may not " + model.want + ": " + call + " answered " + got
                + ", due is " + want);
            System.out.println("  ahead of it: " + told.subList(Math.max(0, told.size() - 12), told.size()));
        }

        int odd(int low, int high) {
            int k = chance.nextInt(24);
            if (k == 0) return low - 1;
            if (k == 1) return high + 1;
            if (k == 2 && chance.nextInt(8) == 0) return chance.nextBoolean() ? Integer.MIN_VALUE : Integer.MAX_VALUE;
            return low + chance.nextInt(high - low + 1);
        }

        int slot() {
            return odd(0, 3);
        }

        int brick() {
            List<Integer> all = model.standing();
            return all.isEmpty() || chance.nextInt(12) == 0 ? odd(0, 2 * model.w * model.h) : all.get(chance.nextInt(all.size()));
        }

        int cell() {
            return odd(0, model.w * model.h - 1);
        }

        void call() {
            int k = chance.nextInt(100);
            if (k < 3) yardCalls();
            else if (k < 14) sheetCalls();
            else if (k < 55) pavingCalls();
            else heightCalls();
        }

        void yardCalls() {
            int a;
            int b;
            switch (chance.nextInt(6)) {
                case 0:
                    int[][] sizes = {{4, 4}, {3, 4}, {4, 3}, {2, 8}, {8, 2}, {5, 4}, {4, 5}, {1, 6}, {6, 1}, {3, 6}, {5, 3}, {6, 3}, {8, 1}, {1, 1}};
                    int[] size = sizes[chance.nextInt(sizes.length)];
                    boolean bad = chance.nextInt(8) == 0;
                    a = bad ? chance.nextInt(2) * 9 : size[0];
                    b = size[1];
                    due("yard(" + a + ", " + b + ")", program.yard(a, b), model.yard(a, b));
                    placeAll();
                    break;
                case 1:
                    a = cell();
                    boolean open = chance.nextBoolean();
                    due("cell(" + a + ", " + open + ")", program.cell(a, open), model.cell(a, open));
                    break;
                case 2:
                case 3:
                    typeText(someText());
                    due("read()", program.read(), model.read());
                    placeAll();
                    break;
                case 4:
                    if (chance.nextInt(6) == 0) fillTape();
                    a = odd(1, 8);
                    long w = chance.nextLong();
                    due("type(" + w + ", " + a + ")", program.type(w, a), model.type(w, a));
                    break;
                default:
                    shapedYard();
            }
        }

        void fillTape() {
            for (int i = 0; i < 24; i++) {
                int n = odd(1, 8);
                due("type(blanks, " + n + ")", program.type(0x2020202020202020L, n), model.type(0x2020202020202020L, n));
            }
            due("read()", program.read(), model.read());
        }

        void typeText(String text) {
            int at = 0;
            while (at < text.length()) {
                int n = Math.min(text.length() - at, 1 + chance.nextInt(8));
                long w = 0;
                for (int k = 0; k < n; k++) w = w << 8 | text.charAt(at + k);
                due("type(" + w + ", " + n + ")", program.type(w, n), model.type(w, n));
                at += n;
            }
        }

        String someText() {
            int w = 1 + chance.nextInt(5);
            int h = 1 + chance.nextInt(4);
            if (chance.nextInt(8) == 0) w = 1;
            if (w == 1) h = 1 + chance.nextInt(9);
            if (h == 1) w = 1 + chance.nextInt(9);
            int closed = chance.nextInt(5);
            StringBuilder text = new StringBuilder();
            for (int y = 0; y < h; y++) {
                if (y > 0) text.append(';');
                for (int x = 0; x < w; x++) text.append(chance.nextInt(10) < closed ? '#' : '.');
            }
            if (chance.nextInt(3) == 0) {
                for (int i = 0; i < 3; i++) text.insert(chance.nextInt(text.length() + 1), ' ');
            }
            if (chance.nextInt(3) == 0) {
                int at = chance.nextInt(text.length());
                int how = chance.nextInt(4);
                if (how == 0) text.deleteCharAt(at);
                else if (how == 1) text.insert(at, ".#; x".charAt(chance.nextInt(5)));
                else if (how == 2) text.setCharAt(at, (char) (32 + chance.nextInt(95)));
                else text.setLength(at);
            }
            return text.toString();
        }

        /** Grown brick by brick, so that it can be paved, and often is whole. */
        void shapedYard() {
            int w = 3 + chance.nextInt(3);
            int h = 3 + chance.nextInt(2);
            boolean[] open = new boolean[w * h];
            int bricks = 3 + chance.nextInt(7);
            for (int tries = 0; tries < 200 && bricks > 0; tries++) {
                int c = chance.nextInt(w * h);
                boolean east = chance.nextBoolean();
                if (east ? c % w == w - 1 : c / w == h - 1) continue;
                int d = east ? c + 1 : c + w;
                if (open[c] || open[d]) continue;
                open[c] = true;
                open[d] = true;
                bricks--;
            }
            due("yard(" + w + ", " + h + ")", program.yard(w, h), model.yard(w, h));
            for (int c = 0; c < w * h; c++) due("cell(" + c + ", " + open[c] + ")", program.cell(c, open[c]), model.cell(c, open[c]));
            placeAll();
        }

        void placeAll() {
            for (int s = 0; s < 4; s++) {
                long rank = chance.nextInt(model.counted().size() + 1);
                due("place(" + s + ", " + rank + ")", program.place(s, rank), model.place(s, rank));
            }
        }

        void sheetCalls() {
            int a = odd(0, 3);
            int b = odd(0, 2);
            int c;
            int d;
            switch (chance.nextInt(9)) {
                case 0:
                    c = odd(0, chance.nextInt(4) == 0 ? 64 : 6);
                    due("sheet(" + a + ", " + b + ", " + c + ")", program.sheet(a, b, c), model.sheet(a, b, c));
                    break;
                case 1:
                    due("drop(" + a + ")", program.drop(a), model.drop(a));
                    break;
                case 2:
                case 3:
                    c = odd(0, 5);
                    d = chance.nextBoolean() ? chance.nextInt(4) : chance.nextInt();
                    due("item(" + a + ", " + b + ", " + c + ", " + d + ")", program.item(a, b, c, d), model.item(a, b, c, d));
                    break;
                case 4:
                case 5:
                    int to = odd(0, 3);
                    c = odd(0, 5);
                    d = odd(0, 5);
                    int n = odd(0, 4);
                    due("copy(" + a + ", " + c + ", " + to + ", " + d + ", " + n + ")", program.copy(a, c, to, d, n), model.copy(a, c, to, d, n));
                    break;
                case 6:
                    c = odd(0, model.w * model.h);
                    d = odd(0, 6);
                    if (chance.nextInt(2) == 0) due("lay(" + c + ", " + a + ", " + d + ")", program.lay(c, a, d), model.lay(c, a, d));
                    break;
                default:
                    brickSheet();
            }
        }

        /** A paving (or nearly one) told on a sheet. */
        void brickSheet() {
            List<Integer> items = new ArrayList<>();
            List<Set<Integer>> all = model.all();
            if (!all.isEmpty()) items.addAll(all.get(chance.nextInt(all.size())));
            java.util.Collections.shuffle(items, chance);
            if (chance.nextInt(4) == 0 && !items.isEmpty()) items.set(chance.nextInt(items.size()), brick());
            if (chance.nextInt(8) == 0) items.add(brick());
            if (chance.nextInt(8) == 0 && !items.isEmpty()) items.remove(0);
            int a = chance.nextInt(4);
            int lane = 1 + chance.nextInt(2);
            due("sheet(" + a + ", " + lane + ", n)", program.sheet(a, lane, items.size()), model.sheet(a, lane, items.size()));
            for (int i = 0; i < items.size(); i++) {
                int v = items.get(i) + (chance.nextInt(20) == 0 ? 256 : 0);
                due("item(" + a + ", " + lane + ", " + i + ", " + v + ")", program.item(a, lane, i, v), model.item(a, lane, i, v));
            }
            int s = slot();
            int asLane = chance.nextInt(6) == 0 ? odd(0, 2) : lane;
            due("bricks(" + s + ", " + a + ", " + asLane + ")", program.bricks(s, a, asLane), model.bricks(s, a, asLane));
        }

        void pavingCalls() {
            int a = slot();
            int b = brick();
            int c;
            switch (chance.nextInt(17)) {
                case 0:
                    c = odd(0, 7);
                    due("count(" + c + ")", program.count(c), model.count(c));
                    break;
                case 1:
                    c = chance.nextInt(3) == 0 ? odd(0, 2) : 0;
                    due("want(" + b + ", " + c + ")", program.want(b, c), model.want(b, c));
                    break;
                case 2:
                    for (int i = 0; i < 6; i++) {
                        b = brick();
                        c = chance.nextInt(8) == 0 ? odd(0, 999) : chance.nextInt(4);
                        due("price(" + b + ", " + c + ")", program.price(b, c), model.price(b, c));
                    }
                    break;
                case 3:
                    due("pavings()", program.pavings(), model.counted().size());
                    break;
                case 4:
                    due("share(" + b + ")", program.share(b), model.share(b));
                    break;
                case 5:
                    c = odd(0, 1);
                    due("sure(" + c + ")", program.sure(c), model.sure(c));
                    break;
                case 6:
                case 7:
                case 8:
                    int n = model.counted().size();
                    long rank = n == 0 ? odd(-1, 1) : odd(0, n - 1);
                    due("place(" + a + ", " + rank + ")", program.place(a, rank), model.place(a, rank));
                    break;
                case 9:
                    due("rank(" + a + ")", program.rank(a), model.rank(a));
                    break;
                case 10:
                    c = cell();
                    due("brick(" + a + ", " + c + ")", program.brick(a, c), model.brick(a, c));
                    break;
                case 11:
                    due("cheapest(" + a + ")", program.cheapest(a), model.cheapest(a));
                    break;
                case 12:
                    due("cost(" + a + ")", program.cost(a), model.cost(a));
                    break;
                case 13:
                    c = slot();
                    due("keep(" + a + ", " + c + ")", program.keep(a, c), model.keep(a, c));
                    break;
                case 14:
                    due("most()", program.most(), model.most());
                    break;
                case 15:
                    a = odd(0, 1);
                    c = odd(0, 1);
                    due("bar(" + a + ", " + c + ")", program.bar(a, c), model.bar(a, c));
                    break;
                default:
                    a = odd(0, 1);
                    c = cell();
                    due("bars(" + a + ", " + c + ")", program.bars(a, c), model.bars(a, c));
            }
        }

        void heightCalls() {
            int a = slot();
            int b = slot();
            int x = odd(0, model.w);
            int y = odd(0, model.h);
            int i;
            switch (chance.nextInt(13)) {
                case 0:
                    due("whole()", program.whole(), model.whole() ? 1 : 0);
                    break;
                case 1:
                case 2:
                    due("height(" + a + ", " + x + ", " + y + ")", program.height(a, x, y), model.height(a, x, y));
                    break;
                case 3:
                case 4:
                    due("turn(" + a + ", " + x + ", " + y + ")", program.turn(a, x, y), model.turn(a, x, y));
                    break;
                case 5:
                    i = odd(0, 1);
                    due("turns(" + a + ", " + i + ")", program.turns(a, i), model.turns(a, i));
                    break;
                case 6:
                    i = odd(0, 1);
                    if (chance.nextInt(3) == 0) due("settle(" + a + ", " + i + ")", program.settle(a, i), model.settle(a, i));
                    break;
                case 7:
                    due("far(" + a + ", " + b + ")", program.far(a, b), model.far(a, b));
                    break;
                case 8:
                    due("toward(" + a + ", " + b + ")", program.toward(a, b), model.toward(a, b));
                    break;
                case 9:
                    due("lines(" + a + ")", program.lines(a), model.lines(a));
                    break;
                case 10:
                    due("sound()", program.sound(), model.sound());
                    break;
                case 11:
                    due("rings(" + a + ", " + b + ")", program.rings(a, b), model.rings(a, b));
                    break;
                default:
                    i = odd(0, 2);
                    if (chance.nextInt(3) > 0) due("ring(" + a + ", " + b + ", " + i + ")", program.ring(a, b, i), model.ring(a, b, i));
                    else due("wind(" + a + ", " + b + ", " + i + ")", program.wind(a, b, i), model.wind(a, b, i));
            }
        }
    }

    /** The document's words. Pavings are sets of bricks; all of them are tried. */
    private static final class Model {
        int w = 4;
        int h = 4;
        boolean[][] open = new boolean[8][8];
        final Map<Integer, Integer> want = new TreeMap<>();
        final Map<Integer, Integer> price = new TreeMap<>();
        final StringBuilder tape = new StringBuilder();
        final List<Set<Integer>> slots = new ArrayList<>(Arrays.asList(null, null, null, null));
        final Object[] sheets = new Object[4];
        List<Set<Integer>> allPavings;

        Model() {
            for (boolean[] row : open) Arrays.fill(row, true);
        }

        String text() {
            StringBuilder t = new StringBuilder();
            for (int y = 0; y < h; y++) {
                t.append(y > 0 ? ";" : "");
                for (int x = 0; x < w; x++) t.append(open[y][x] ? '.' : '#');
            }
            return t.toString();
        }

        boolean isOpen(int x, int y) {
            return x >= 0 && x < w && y >= 0 && y < h && open[y][x];
        }

        boolean isOpen(int c) {
            return c >= 0 && c < w * h && isOpen(c % w, c / w);
        }

        boolean stands(int b) {
            if (b < 0 || b >= 2 * w * h) return false;
            int x = b / 2 % w;
            int y = b / 2 / w;
            return isOpen(x, y) && (b % 2 == 0 ? isOpen(x + 1, y) : isOpen(x, y + 1));
        }

        int[] cellsOf(int b) {
            return new int[] {b / 2, b % 2 == 0 ? b / 2 + 1 : b / 2 + w};
        }

        List<Integer> standing() {
            List<Integer> all = new ArrayList<>();
            for (int b = 0; b < 2 * w * h; b++) if (stands(b)) all.add(b);
            return all;
        }

        void changed() {
            allPavings = null;
            for (int i = 0; i < 4; i++) slots.set(i, null);
        }

        int yard(int ww, int hh) {
            if (ww < 1 || ww > 8 || hh < 1 || hh > 8) return BAD;
            w = ww;
            h = hh;
            for (boolean[] row : open) Arrays.fill(row, true);
            want.clear();
            price.clear();
            changed();
            return w * h;
        }

        int cell(int c, boolean isOpen) {
            if (c < 0 || c >= w * h) return BAD;
            boolean was = isOpen(c);
            if (was == isOpen) return was ? 1 : 0;
            for (int b = 0; b < 2 * w * h; b++) {
                if (!stands(b) || cellsOf(b)[0] != c && cellsOf(b)[1] != c) continue;
                want.remove(b);
                price.remove(b);
            }
            open[c / w][c % w] = isOpen;
            changed();
            return was ? 1 : 0;
        }

        int type(long v, int n) {
            if (n < 1 || n > 8) return BAD;
            StringBuilder more = new StringBuilder();
            for (int k = n - 1; k >= 0; k--) {
                char b = (char) (v >> 8 * k & 255);
                if (b < 32 || b > 126) return BAD;
                more.append(b);
            }
            if (tape.length() + n > 90) return FULL;
            return tape.append(more).length();
        }

        /** Whether a text can begin so (or, if whole, be so). */
        static boolean canBe(String text, boolean whole) {
            String[] rows = text.replace(" ", "").split(";", -1);
            if (rows.length > 8) return false;
            int wide = rows[0].length();
            if (wide > 8 || wide == 0 && (rows.length > 1 || whole)) return false;
            for (int i = 0; i < rows.length; i++) {
                if (!rows[i].matches("[.#]*") || rows[i].length() > wide) return false;
                if (rows[i].length() < wide && (whole || i < rows.length - 1)) return false;
            }
            return true;
        }

        int read() {
            String text = tape.toString();
            tape.setLength(0);
            for (int k = 0; k < text.length(); k++) if (!canBe(text.substring(0, k + 1), false)) return -20 - k;
            if (!canBe(text, true)) return -20 - text.length();
            String[] rows = text.replace(" ", "").split(";");
            yard(rows[0].length(), rows.length);
            int n = 0;
            for (int c = 0; c < w * h; c++) {
                boolean o = rows[c / w].charAt(c % w) == '.';
                cell(c, o);
                n += o ? 1 : 0;
            }
            return n;
        }

        int lay(int c, int sheet, int i) {
            if (c < 0 || c > w * h || sheet < 0 || sheet > 3) return BAD;
            if (sheets[sheet] == null) return NULL;
            if (!(sheets[sheet] instanceof boolean[] row)) return CAST;
            if (i < 0 || i > row.length) return INDEX;
            if (c + row.length - i > w * h) return BAD;
            for (int k = i; k < row.length; k++) cell(c + k - i, row[k]);
            return row.length - i;
        }

        int count(int what) {
            int n = 0;
            switch (what) {
                case 0: return w;
                case 1: return h;
                case 2:
                    for (int c = 0; c < w * h; c++) n += isOpen(c) ? 1 : 0;
                    return n;
                case 3:
                    for (int c = 0; c < w * h; c++) n += isOpen(c) && (c % w + c / w) % 2 == 0 ? 1 : 0;
                    return n;
                case 4: return standing().size();
                case 5: return (int) want.values().stream().filter(v -> v == 1).count();
                case 6: return (int) want.values().stream().filter(v -> v == 2).count();
                case 7: return (int) slots.stream().filter(s -> s != null).count();
                default: return BAD;
            }
        }

        int want(int b, int how) {
            if (how < 0 || how > 2 || !stands(b)) return BAD;
            Integer was = want.put(b, how);
            return was == null ? 0 : was;
        }

        int price(int b, int v) {
            if (v < 0 || v > 999 || !stands(b)) return BAD;
            Integer was = price.put(b, v);
            return was == null ? 0 : was;
        }

        List<Set<Integer>> all() {
            if (allPavings == null) {
                allPavings = new ArrayList<>();
                collect(new TreeSet<>(), new HashSet<>());
                allPavings.sort(this::compare);
            }
            return allPavings;
        }

        void collect(TreeSet<Integer> laid, Set<Integer> covered) {
            int c = w * h - 1;
            while (c >= 0 && (!isOpen(c) || covered.contains(c))) c--;
            if (c < 0) {
                allPavings.add(new TreeSet<>(laid));
                return;
            }
            for (int b : standing()) {
                int[] both = cellsOf(b);
                if (both[0] != c && both[1] != c || covered.contains(both[0]) || covered.contains(both[1])) continue;
                laid.add(b);
                covered.add(both[0]);
                covered.add(both[1]);
                collect(laid, covered);
                laid.remove(b);
                covered.remove(both[0]);
                covered.remove(both[1]);
            }
        }

        int on(Set<Integer> paving, int c) {
            for (int b : paving) if (cellsOf(b)[0] == c || cellsOf(b)[1] == c) return b;
            return -1;
        }

        int compare(Set<Integer> p, Set<Integer> q) {
            for (int c = 0; c < w * h; c++) {
                int one = on(p, c);
                int other = on(q, c);
                if (one != other) return one == 2 * c ? -1 : other == 2 * c ? 1 : 0;
            }
            return 0;
        }

        boolean isCounted(Set<Integer> p) {
            for (Map.Entry<Integer, Integer> e : want.entrySet()) {
                if (e.getValue() == 1 && !p.contains(e.getKey())) return false;
                if (e.getValue() == 2 && p.contains(e.getKey())) return false;
            }
            return true;
        }

        List<Set<Integer>> counted() {
            List<Set<Integer>> list = new ArrayList<>();
            for (Set<Integer> p : all()) if (isCounted(p)) list.add(p);
            return list;
        }

        long share(int b) {
            if (!stands(b)) return BAD;
            return counted().stream().filter(p -> p.contains(b)).count();
        }

        int sure(int what) {
            if (what != 0 && what != 1) return BAD;
            if (counted().isEmpty()) return NONE;
            int n = 0;
            for (int b : standing()) n += share(b) == (what == 0 ? counted().size() : 0) ? 1 : 0;
            return n;
        }

        boolean noSlot(int s) {
            return s < 0 || s > 3;
        }

        int place(int s, long rank) {
            if (noSlot(s) || rank < 0 || rank >= counted().size()) return BAD;
            slots.set(s, counted().get((int) rank));
            return slots.get(s).size();
        }

        long rank(int s) {
            if (noSlot(s)) return BAD;
            if (slots.get(s) == null) return NONE;
            int at = counted().indexOf(slots.get(s));
            return at < 0 ? NOT : at;
        }

        int brick(int s, int c) {
            if (noSlot(s) || !isOpen(c)) return BAD;
            return slots.get(s) == null ? NONE : on(slots.get(s), c);
        }

        int sum(Set<Integer> p) {
            int sum = 0;
            for (int b : p) sum += price.getOrDefault(b, 0);
            return sum;
        }

        int cheapest(int s) {
            if (noSlot(s)) return BAD;
            Set<Integer> best = null;
            for (Set<Integer> p : counted()) if (best == null || sum(p) < sum(best)) best = p;
            if (best == null) return NONE;
            slots.set(s, best);
            return sum(best);
        }

        int cost(int s) {
            if (noSlot(s)) return BAD;
            return slots.get(s) == null ? NONE : sum(slots.get(s));
        }

        int keep(int from, int to) {
            if (noSlot(from) || noSlot(to)) return BAD;
            if (slots.get(from) == null) return NONE;
            slots.set(to, slots.get(from));
            return 1;
        }

        int bricks(int s, int sheet, int lane) {
            if (noSlot(s) || sheet < 0 || sheet > 3 || lane < 1 || lane > 2) return BAD;
            if (sheets[sheet] == null) return NULL;
            List<Integer> items = new ArrayList<>();
            if (lane == 1 && sheets[sheet] instanceof byte[] row) for (byte v : row) items.add((int) v);
            else if (lane == 2 && sheets[sheet] instanceof int[] row) for (int v : row) items.add(v);
            else return CAST;
            Set<Integer> set = new TreeSet<>(items);
            if (set.size() != items.size() || !all().contains(set)) return NOT;
            slots.set(s, set);
            return 1;
        }

        int heap(long left, Map<Long, Integer> known) {
            if (left == 0) return 0;
            Integer was = known.get(left);
            if (was != null) return was;
            int c = Long.numberOfTrailingZeros(left);
            long rest = left & ~(1L << c);
            int best = heap(rest, known);
            for (int b = 2 * c; b < 2 * c + 2; b++) {
                if (!stands(b)) continue;
                long second = 1L << cellsOf(b)[1];
                if ((rest & second) != 0) best = Math.max(best, 1 + heap(rest & ~second, known));
            }
            known.put(left, best);
            return best;
        }

        long openBits() {
            long bits = 0;
            for (int c = 0; c < w * h; c++) if (isOpen(c)) bits |= 1L << c;
            return bits;
        }

        int most() {
            return heap(openBits(), new HashMap<>());
        }

        boolean inDoubt(int side, int c) {
            return isOpen(c) && (c % w + c / w) % 2 == side && heap(openBits() & ~(1L << c), new HashMap<>()) == most();
        }

        int bars(int side, int c) {
            if (side < 0 || side > 1 || !isOpen(c)) return BAD;
            if (inDoubt(side, c)) return 2;
            for (int b : standing()) {
                int[] both = cellsOf(b);
                if (both[0] == c && inDoubt(side, both[1]) || both[1] == c && inDoubt(side, both[0])) return 1;
            }
            return 0;
        }

        int bar(int side, int what) {
            if (side < 0 || side > 1 || what < 0 || what > 1) return BAD;
            int n = 0;
            for (int c = 0; c < w * h; c++) n += bars(side, c) == 2 - what ? 1 : 0;
            return n;
        }

        /** How many heaps of like cells a grid of (w + 2) by (h + 2) has, corners joining or not. */
        int heaps(boolean ofOpen) {
            int[][] name = new int[h + 2][w + 2];
            for (int y = 0; y < h + 2; y++) for (int x = 0; x < w + 2; x++) name[y][x] = isOpen(x - 1, y - 1) == ofOpen ? y * 99 + x + 1 : 0;
            for (int round = 0; round < 200; round++) {
                for (int y = 0; y < h + 2; y++) for (int x = 0; x < w + 2; x++) for (int dy = -1; dy < 2; dy++) for (int dx = -1; dx < 2; dx++) {
                    if (ofOpen && dx != 0 && dy != 0 || y + dy < 0 || y + dy > h + 1 || x + dx < 0 || x + dx > w + 1) continue;
                    if (name[y][x] != 0 && name[y + dy][x + dx] != 0) name[y][x] = Math.min(name[y][x], name[y + dy][x + dx]);
                }
            }
            Set<Integer> names = new HashSet<>();
            for (int[] row : name) for (int v : row) if (v != 0) names.add(v);
            return names.size();
        }

        boolean whole() {
            for (int c = 0; c < w * h; c++) for (int s = -1; s < 2; s += 2) {
                int x = c % w;
                int y = c / w;
                if (isOpen(x, y) && isOpen(x + s, y + 1) && !isOpen(x + s, y) && !isOpen(x, y + 1)) return false;
            }
            return heaps(true) == 1 && heaps(false) == 1;
        }

        boolean isCorner(int x, int y) {
            return isOpen(x, y) || isOpen(x - 1, y) || isOpen(x, y - 1) || isOpen(x - 1, y - 1);
        }

        int nameAt(Set<Integer> p, int x, int y) {
            return isOpen(x, y) ? on(p, y * w + x) : -1;
        }

        /** Heights by going over all sides again and again; null, if they do not agree. */
        Map<Integer, Integer> heights(Set<Integer> p) {
            Map<Integer, Integer> at = new TreeMap<>();
            for (int y = h; y >= 0; y--) for (int x = w; x >= 0; x--) if (isCorner(x, y)) {
                at.clear();
                at.put(16 * y + x, 0);
            }
            for (int round = 0; round < 90; round++) {
                for (int y = 0; y <= h; y++) for (int x = 0; x <= w; x++) {
                    if (x < w && isOpen(x, y - 1) | isOpen(x, y) && (nameAt(p, x, y - 1) != nameAt(p, x, y))) {
                        join(at, 16 * y + x, 16 * y + x + 1, Math.floorMod(x + y - 1, 2) == 0 ? 1 : -1);
                    }
                    if (y < h && isOpen(x - 1, y) | isOpen(x, y) && (nameAt(p, x - 1, y) != nameAt(p, x, y))) {
                        join(at, 16 * y + x, 16 * y + 16 + x, (x + y) % 2 == 0 ? 1 : -1);
                    }
                }
            }
            return at;
        }

        void join(Map<Integer, Integer> at, int from, int to, int more) {
            if (at.containsKey(from)) {
                Integer was = at.put(to, at.get(from) + more);
                if (was != null && was != at.get(from) + more) throw new IllegalStateException("heights do not agree");
            } else if (at.containsKey(to)) {
                at.put(from, at.get(to) - more);
            }
        }

        int fault(int a, int b) {
            if (noSlot(a) || noSlot(b)) return BAD;
            if (slots.get(a) == null || slots.get(b) == null) return NONE;
            return whole() ? 0 : NOT;
        }

        int height(int s, int x, int y) {
            if (noSlot(s) || x < 0 || x > w || y < 0 || y > h || !isCorner(x, y)) return BAD - 1000;
            if (fault(s, s) < 0) return fault(s, s) - 1000;
            return heights(slots.get(s)).get(16 * y + x);
        }

        /** The paving behind a turn; null, if there is none. */
        Set<Integer> turned(Set<Integer> p, int x, int y) {
            if (x < 1 || y < 1 || x >= w || y >= h) return null;
            int c = (y - 1) * w + x - 1;
            Set<Integer> flat = Set.of(2 * c, 2 * (c + w));
            Set<Integer> upright = Set.of(2 * c + 1, 2 * (c + 1) + 1);
            Set<Integer> q = new TreeSet<>(p);
            if (q.containsAll(flat)) {
                q.removeAll(flat);
                q.addAll(upright);
                return q;
            }
            if (!q.containsAll(upright)) return null;
            q.removeAll(upright);
            q.addAll(flat);
            return q;
        }

        boolean goesUp(Set<Integer> p, int x, int y) {
            return heights(turned(p, x, y)).get(16 * y + x) > heights(p).get(16 * y + x);
        }

        int turn(int s, int x, int y) {
            if (noSlot(s) || x < 0 || x > w || y < 0 || y > h) return BAD;
            if (fault(s, s) < 0) return fault(s, s);
            Set<Integer> q = turned(slots.get(s), x, y);
            if (q == null) return NOT;
            int up = goesUp(slots.get(s), x, y) ? 1 : 0;
            slots.set(s, q);
            return up;
        }

        int turns(int s, int up) {
            if (noSlot(s) || up < 0 || up > 1) return BAD;
            if (fault(s, s) < 0) return fault(s, s);
            int n = 0;
            for (int y = 0; y <= h; y++) for (int x = 0; x <= w; x++) {
                if (turned(slots.get(s), x, y) != null && goesUp(slots.get(s), x, y) == (up == 1)) n++;
            }
            return n;
        }

        int settle(int s, int up) {
            if (noSlot(s) || up < 0 || up > 1) return BAD;
            if (fault(s, s) < 0) return fault(s, s);
            int n = 0;
            boolean again = true;
            while (again) {
                again = false;
                for (int x = w; x >= 0 && !again; x--) for (int y = h; y >= 0 && !again; y--) {
                    if (turned(slots.get(s), x, y) == null || goesUp(slots.get(s), x, y) != (up == 1)) continue;
                    slots.set(s, turned(slots.get(s), x, y));
                    again = true;
                    n++;
                }
            }
            return n;
        }

        int steps(Set<Integer> p, Set<Integer> q) {
            Map<Set<Integer>, Integer> far = new HashMap<>();
            ArrayDeque<Set<Integer>> queue = new ArrayDeque<>();
            far.put(p, 0);
            queue.add(p);
            while (!far.containsKey(q)) {
                Set<Integer> at = queue.remove();
                for (int y = 1; y < h; y++) for (int x = 1; x < w; x++) {
                    Set<Integer> next = turned(at, x, y);
                    if (next == null || far.containsKey(next)) continue;
                    far.put(next, far.get(at) + 1);
                    queue.add(next);
                }
            }
            return far.get(q);
        }

        int far(int a, int b) {
            return fault(a, b) < 0 ? fault(a, b) : steps(slots.get(a), slots.get(b));
        }

        int toward(int a, int b) {
            if (fault(a, b) < 0) return fault(a, b);
            int now = steps(slots.get(a), slots.get(b));
            if (now == 0) return NOT;
            for (int y = 1; y < h; y++) for (int x = 1; x < w; x++) {
                Set<Integer> q = turned(slots.get(a), x, y);
                if (q == null || steps(q, slots.get(b)) >= now) continue;
                slots.set(a, q);
                return 16 * y + x;
            }
            throw new IllegalStateException("no turn toward");
        }

        int linesOf(Set<Integer> p) {
            int bits = 0;
            for (int x = 1; x < w; x++) {
                boolean crossed = false;
                for (int b : p) crossed |= b % 2 == 0 && b / 2 % w == x - 1;
                if (!crossed) bits |= 1 << x;
            }
            return bits;
        }

        int lines(int s) {
            if (noSlot(s)) return BAD;
            return slots.get(s) == null ? NONE : linesOf(slots.get(s));
        }

        long sound() {
            return all().stream().filter(p -> linesOf(p) == 0).count();
        }

        List<TreeSet<Integer>> ringsOf(Set<Integer> p, Set<Integer> q) {
            List<TreeSet<Integer>> rings = new ArrayList<>();
            for (int c = 0; c < w * h; c++) if (isOpen(c)) rings.add(new TreeSet<>(Set.of(c)));
            for (Set<Integer> set : List.of(p, q)) for (int b : set) {
                int[] both = cellsOf(b);
                TreeSet<Integer> one = holding(rings, both[0]);
                TreeSet<Integer> other = holding(rings, both[1]);
                if (one == other) continue;
                rings.removeIf(r -> r == other);
                one.addAll(other);
            }
            rings.removeIf(r -> r.size() < 4);
            rings.sort((r, t) -> r.first() - t.first());
            return rings;
        }

        static TreeSet<Integer> holding(List<TreeSet<Integer>> rings, int c) {
            for (TreeSet<Integer> r : rings) if (r.contains(c)) return r;
            throw new IllegalStateException();
        }

        int rings(int a, int b) {
            if (noSlot(a) || noSlot(b)) return BAD;
            if (slots.get(a) == null || slots.get(b) == null) return NONE;
            return ringsOf(slots.get(a), slots.get(b)).size();
        }

        int ring(int a, int b, int i) {
            if (i < 0) return BAD;
            int n = rings(a, b);
            if (n < 0) return n;
            return i >= n ? BAD : ringsOf(slots.get(a), slots.get(b)).get(i).size();
        }

        int wind(int a, int b, int i) {
            if (i < 0) return BAD;
            int n = rings(a, b);
            if (n < 0) return n;
            if (i >= n) return BAD;
            TreeSet<Integer> cells = ringsOf(slots.get(a), slots.get(b)).get(i);
            Set<Integer> p = new TreeSet<>();
            int others = 0;
            for (int k : slots.get(a)) if (!cells.contains(k / 2)) p.add(k);
            for (int k : slots.get(b)) if (cells.contains(k / 2)) p.add(k);
            for (int k : p) others += slots.get(a).contains(k) ? 0 : 1;
            slots.set(a, p);
            return others;
        }

        int sheet(int s, int lane, int n) {
            if (s < 0 || s > 3 || lane < 0 || lane > 2 || n > 64) return BAD;
            if (n < 0) return SIZE;
            sheets[s] = lane == 0 ? new boolean[n] : lane == 1 ? new byte[n] : new int[n];
            return n;
        }

        int drop(int s) {
            if (s < 0 || s > 3) return BAD;
            if (sheets[s] == null) return NULL;
            int n = java.lang.reflect.Array.getLength(sheets[s]);
            sheets[s] = null;
            return n;
        }

        int item(int s, int lane, int i, int v) {
            if (s < 0 || s > 3 || lane < 0 || lane > 2) return BAD;
            try {
                if (lane == 0) ((boolean[]) sheets[s])[i] = v != 0;
                else if (lane == 1) ((byte[]) sheets[s])[i] = (byte) v;
                else ((int[]) sheets[s])[i] = v;
            } catch (ClassCastException e) {
                return CAST;
            } catch (NullPointerException e) {
                return NULL;
            } catch (ArrayIndexOutOfBoundsException e) {
                return INDEX;
            }
            return 1;
        }

        int copy(int from, int i, int to, int j, int n) {
            if (from < 0 || from > 3 || to < 0 || to > 3) return BAD;
            try {
                System.arraycopy(sheets[from], i, sheets[to], j, n);
            } catch (NullPointerException e) {
                return NULL;
            } catch (ArrayStoreException e) {
                return CAST;
            } catch (IndexOutOfBoundsException e) {
                return INDEX;
            }
            return n;
        }
    }
}
