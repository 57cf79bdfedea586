import java.util.ArrayList;
import java.util.Arrays;
import java.util.List;
import java.util.Random;
import java.util.TreeMap;
import java.util.TreeSet;

/**
 * Random runs of calls (always the same ones), each answer compared with that of a plain model: the model keeps the
 * rows themselves, writes a row by every way there is, byte by byte, and only then picks one.
 */
public final class ModelTest {
    private static final int RUNS = 400;
    private static final int MOST_CALLS_OF_A_STEP = 80;
    private static int wrong = 0;

    public static void main(String[] args) {
        for (int run = 0; run < RUNS && wrong < 20; run++) {
            new Run(run).go();
        }
        System.out.println(wrong == 0 ? "all answers are as due" : wrong + " answers are wrong");
        System.exit(wrong == 0 ? 0 : 1);
    }

    /** A store and the model, called alike. */
    private static final class Run {
        final int number;
        final Random random;
        final Store tried = new Store();
        final Model model = new Model();

        Run(int number) {
            this.number = number;
            this.random = new Random(7919L * number + 13);
        }

        void due(long got, long want) {
            if (got != want && wrong < 20) {
                wrong++;
                System.out.println("run " + number + ", call " + tried.calls() + ": " + Store.latest + " answered "
                        + got + ", due is " + want);
            }
        }

        boolean hasRoomFor(int calls) {
            return tried.calls() + calls <= Store.MOST_CALLS && wrong < 20;
        }

        void go() {
            int kind = number % 5;
            int left = number % 3 == 0 ? 300 : MOST_CALLS_OF_A_STEP;
            while (hasRoomFor(left)) {
                int r = random.nextInt(100);
                if (kind == 4 && r < 60) {
                    loadSomething();
                } else if (r < 22) {
                    addRows();
                } else if (r < 34) {
                    change();
                } else if (r < 46) {
                    ask();
                } else if (r < 56) {
                    takeAndLoad();
                } else if (r < 60) {
                    loadSomething();
                } else if (r < 64) {
                    rare();
                } else if (r < 76) {
                    front();
                } else if (r < 90) {
                    look();
                } else {
                    choose();
                }
            }
            lookAtAll();
        }

        int column() {
            return random.nextInt(12) == 0 ? random.nextInt(9) - 2 : random.nextInt(12) < 7 ? 0 : random.nextInt(4);
        }

        int row(int column) {
            int rows = Math.max(0, model.count(column, 0));
            return random.nextInt(12) == 0 ? random.nextInt(400) - 100 : rows == 0 ? 0 : random.nextInt(rows);
        }

        int pieceOf(int column) {
            return random.nextInt(10) == 0 ? random.nextInt(8) - 1
                    : random.nextInt(Math.max(1, model.count(column, 1)));
        }

        long number() {
            switch (random.nextInt(9)) {
                case 0:
                    return random.nextInt(3);
                case 1:
                    return random.nextInt(40) - 20;
                case 2:
                    return random.nextLong();
                case 3:
                    return random.nextLong() >> random.nextInt(64);
                case 4:
                    return Long.MIN_VALUE + random.nextInt(3);
                case 5:
                    return Long.MAX_VALUE - random.nextInt(3);
                case 6:
                    return 1000L * (random.nextInt(9) - 4);
                case 7:
                    return 0L;
                default:
                    return 1L << random.nextInt(64);
            }
        }

        void sow() {
            int c = column();
            int n = random.nextInt(8) == 0 ? random.nextInt(70) - 2 : 1 + random.nextInt(40);
            int seed = random.nextInt();
            long first = number();
            long step = random.nextBoolean() ? 0L : number();
            int spread = random.nextInt(8) == 0 ? random.nextInt() : 1 + random.nextInt(random.nextBoolean() ? 5 : 3000);
            spread = random.nextInt(30) == 0 ? 1000000 + random.nextInt(2) : spread;
            long by = random.nextBoolean() ? number() : 1L;
            due(tried.sow(c, n, seed, first, step, spread, by), model.sow(c, n, seed, first, step, spread, by));
        }

        void addRows() {
            if (random.nextInt(3) == 0) {
                sow();
                return;
            }
            int c = column();
            int shape = random.nextInt(6);
            long v = number();
            long other = number();
            int n = 1 + random.nextInt(34);
            for (int i = 0; i < n; i++) {
                if (random.nextInt(shape == 0 ? 2 : 15) == 0) {
                    due(tried.missing(c), model.missing(c));
                } else {
                    due(tried.value(c, v), model.value(c, v));
                }
                v = shape == 1 ? v + other : shape == 2 && random.nextInt(5) > 0 ? v
                        : shape == 3 ? (random.nextBoolean() ? v : other) : shape == 4 ? random.nextInt(100) : number();
            }
        }

        void change() {
            int c = column();
            int n = 1 + random.nextInt(6);
            for (int i = 0; i < n; i++) {
                int r = row(c);
                long v = random.nextInt(4) == 0 ? model.get(c, r) : number();
                due(tried.set(c, r, v), model.set(c, r, v));
            }
        }

        long end(int c) {
            long v = random.nextInt(3) == 0 ? number() : model.get(c, row(c));
            return v + random.nextInt(3) - 1;
        }

        void ask() {
            int c = column();
            long a = end(c);
            long b = end(c);
            if (random.nextInt(6) > 0 && a > b) {
                long x = a;
                a = b;
                b = x;
            }
            if (random.nextBoolean()) {
                due(tried.among(c, a, b), model.among(c, a, b));
            } else {
                due(tried.sum(c, a, b), model.sum(c, a, b));
            }
            due(tried.looked(), model.looked());
        }

        void load() {
            int c = column();
            due(tried.load(c), model.load(c));
            due(tried.fault(0), model.fault(0));
            due(tried.fault(1), model.fault(1));
        }

        void takeAndLoad() {
            int c = column();
            int p = pieceOf(c);
            due(tried.take(c, p), model.take(c, p));
            if (random.nextInt(4) == 0) {
                int n = random.nextInt(60) - 3;
                due(tried.end(n) ? 1 : 0, model.end(n) ? 1 : 0);
            }
            if (random.nextInt(8) == 0) {
                feedOnce(random.nextInt(), random.nextInt(), random.nextInt(), random.nextInt(), random.nextInt());
            }
            load();
        }

        void feedOnce(int a, int b, int c, int d, int e) {
            due(tried.feed(a, b, c, d, e), model.feed(a, b, c, d, e));
        }

        /** Bytes of a piece that is written in some way, most often with a byte that is another one. */
        void loadSomething() {
            List<Integer> bytes = new Forger(random).forge();
            due(tried.end(0) ? 1 : 0, model.end(0) ? 1 : 0);
            int fed = 0;
            for (int i = 0; i < bytes.size() && fed + 20 <= 300; i += 20) {
                int[] n = new int[5];
                for (int k = 0; k < 20; k++) {
                    int b = i + k < bytes.size() ? bytes.get(i + k) : 0;
                    n[k / 4] = n[k / 4] << 8 | b;
                }
                feedOnce(n[0], n[1], n[2], n[3], n[4]);
                fed += 20;
            }
            int length = Math.min(fed, bytes.size());
            due(tried.end(length) ? 1 : 0, model.end(length) ? 1 : 0);
            load();
            if (random.nextInt(3) == 0) {
                int c = column();
                due(tried.clear(c), model.clear(c));
            }
        }

        void rare() {
            int c = column();
            if (random.nextInt(3) == 0) {
                due(tried.clear(c), model.clear(c));
            } else {
                due(tried.pack(c), model.pack(c));
            }
        }

        void front() {
            int c = column();
            int p = pieceOf(c);
            due(tried.front(c, p), model.front(c, p));
            for (int k = -1; k < model.shown.size() + 1; k++) {
                int what = random.nextInt(20) == 0 ? random.nextInt(5) - 2 : random.nextInt(2);
                due(tried.pair(k, what), model.pair(k, what));
            }
        }

        void look() {
            int c = column();
            int p = pieceOf(c);
            int r = row(c);
            int what = random.nextInt(8) - 1;
            int i = random.nextInt(60) - 1;
            due(tried.piece(c, p, what), model.piece(c, p, what));
            due(tried.count(c, what), model.count(c, what));
            due(tried.at(c, p, i), model.at(c, p, i));
            due(tried.code(c, p, i % 5), model.code(c, p, i % 5));
            due(tried.has(c, r), model.has(c, r));
            due(tried.get(c, r), model.get(c, r));
            due(tried.fault(what), model.fault(what));
            due(tried.looked(), model.looked());
        }

        void choose() {
            int c = column();
            int depth = random.nextInt(10) == 0 ? random.nextInt(9) - 4 : random.nextInt(3);
            int limit = random.nextInt(10) == 0 ? random.nextInt(1100) - 50
                    : random.nextBoolean() ? 32 + random.nextInt(100) : 1000;
            due(tried.way(c, depth, limit) ? 1 : 0, model.way(c, depth, limit) ? 1 : 0);
        }

        /** As much as the store has calls left for, from another column on in each run. */
        void lookAtAll() {
            for (int i = 0; i < 4; i++) {
                int c = (number + i) % 4;
                for (int what = 0; what < 4 && hasRoomFor(1); what++) {
                    due(tried.count(c, what), model.count(c, what));
                }
                for (int p = 0; p < model.count(c, 1); p++) {
                    lookAtPiece(c, p);
                }
                for (int r = 0; r < model.count(c, 0) && hasRoomFor(2); r++) {
                    due(tried.has(c, r), model.has(c, r));
                    due(tried.get(c, r), model.get(c, r));
                }
            }
        }

        void lookAtPiece(int c, int p) {
            for (int what = 0; what < 5 && hasRoomFor(1); what++) {
                due(tried.piece(c, p, what), model.piece(c, p, what));
            }
            for (int i = 0; i < 4 && hasRoomFor(1); i++) {
                due(tried.code(c, p, i), model.code(c, p, i));
            }
            for (int i = 0; i <= model.piece(c, p, 1) && hasRoomFor(1); i++) {
                due(tried.at(c, p, i), model.at(c, p, i));
            }
        }
    }

    /** Bytes by which a row of values is written, and their work. */
    private static final class Written {
        final List<Integer> bytes = new ArrayList<>();
        int work;

        void varint(long unsigned) {
            long rest = unsigned;
            while (Long.compareUnsigned(rest, 127L) > 0) {
                bytes.add((int) (rest % 128 + 128) % 128 + 128);
                rest = rest >>> 7;
            }
            bytes.add((int) rest);
        }

        void signed(long v) {
            varint(v < 0 ? -2 * v - 1 : 2 * v);
        }

        void laying(List<Long> numbers, int w) {
            StringBuilder bits = new StringBuilder();
            for (long n : numbers) {
                for (int k = 0; k < w; k++) {
                    bits.append((n >>> k & 1) == 1 ? '1' : '0');
                }
            }
            while (bits.length() % 8 != 0) {
                bits.append('0');
            }
            for (int i = 0; i < bits.length(); i += 8) {
                bytes.add(Integer.parseInt(new StringBuilder(bits.substring(i, i + 8)).reverse().toString(), 2));
            }
        }
    }

    private static int bits(long unsigned) {
        return unsigned == 0 ? 0 : Long.toBinaryString(unsigned).length();
    }

    /** The row by the turns of a code from number i on; null if one of them can't be. */
    private static Written write(List<Long> row, int[] code, int i) {
        switch (code[i]) {
            case 0:
                return plain(row);
            case 1:
                return narrow(row);
            case 2:
                return patched(row);
            case 3:
                return steps(row, code, i);
            case 4:
                return runs(row, code, i);
            case 5:
                return list(row, code, i);
            default:
                return shares(row, code, i);
        }
    }

    private static Written plain(List<Long> row) {
        Written out = new Written();
        out.bytes.add(0);
        for (long v : row) {
            for (int k = 7; k >= 0; k--) {
                out.bytes.add((int) (v >>> 8 * k & 255));
            }
        }
        out.work = row.size();
        return out;
    }

    private static Written narrow(List<Long> row) {
        Written out = new Written();
        long least = row.isEmpty() ? 0 : new TreeSet<>(row).first();
        long greatest = row.isEmpty() ? 0 : new TreeSet<>(row).last();
        List<Long> rest = new ArrayList<>();
        for (long v : row) {
            rest.add(v - least);
        }
        out.bytes.add(1);
        out.signed(least);
        out.bytes.add(bits(greatest - least));
        out.laying(rest, bits(greatest - least));
        out.work = row.size();
        return out;
    }

    private static boolean covers(long b, int w, long v) {
        long top = b + (w == 0 ? 0 : w == 63 ? Long.MAX_VALUE : (1L << w) - 1);
        return v >= b && v <= (top < b ? Long.MAX_VALUE : top);
    }

    private static Written patchedBy(List<Long> row, long b, int w) {
        Written out = new Written();
        List<Long> rest = new ArrayList<>();
        int k = 0;
        for (long v : row) {
            boolean in = covers(b, w, v);
            rest.add(in ? v - b : 0L);
            k += in ? 0 : 1;
        }
        out.bytes.add(2);
        out.signed(b);
        out.bytes.add(w);
        out.bytes.add(k);
        for (int i = 0; i < row.size(); i++) {
            if (!covers(b, w, row.get(i))) {
                out.bytes.add(i);
                out.signed(row.get(i));
            }
        }
        out.laying(rest, w);
        out.work = row.size() + k;
        return out;
    }

    private static int signedSize(long v) {
        Written one = new Written();
        one.signed(v);
        return one.bytes.size();
    }

    private static Written patched(List<Long> row) {
        if (row.isEmpty()) {
            return null;
        }
        int[] sizes = row.stream().mapToInt(v -> signedSize(v)).toArray();
        TreeSet<Long> bases = new TreeSet<>(row);
        int best = Integer.MAX_VALUE;
        int bestW = 0;
        long bestB = 0;
        for (int w = 0; w <= 63; w++) {
            for (long b : bases) {
                int size = 3 + signedSize(b) + (row.size() * w + 7) / 8;
                for (int i = 0; i < sizes.length; i++) {
                    size += covers(b, w, row.get(i)) ? 0 : 1 + sizes[i];
                }
                if (size < best) {
                    best = size;
                    bestW = w;
                    bestB = b;
                }
            }
        }
        return patchedBy(row, bestB, bestW);
    }

    private static Written steps(List<Long> row, int[] code, int i) {
        if (row.size() < 2) {
            return null;
        }
        List<Long> turned = new ArrayList<>();
        for (int k = 0; k < row.size(); k++) {
            turned.add(k == 0 ? row.get(0) : row.get(k) - row.get(k - 1));
        }
        Written inner = write(turned, code, i + 1);
        if (inner == null) {
            return null;
        }
        Written out = new Written();
        out.bytes.add(3);
        out.bytes.addAll(inner.bytes);
        out.work = row.size() + inner.work;
        return out;
    }

    private static Written runs(List<Long> row, int[] code, int i) {
        if (row.size() < 2) {
            return null;
        }
        List<Long> turned = new ArrayList<>();
        List<Long> lengths = new ArrayList<>();
        for (long v : row) {
            int last = turned.size() - 1;
            if (last >= 0 && turned.get(last) == v) {
                lengths.set(last, lengths.get(last) + 1);
            } else {
                turned.add(v);
                lengths.add(1L);
            }
        }
        Written inner = write(turned, code, i + 1);
        Written tail = narrow(lengths);
        if (inner == null) {
            return null;
        }
        Written out = new Written();
        out.bytes.add(4);
        out.bytes.add(turned.size());
        out.bytes.addAll(inner.bytes);
        out.bytes.addAll(tail.bytes);
        out.work = row.size() + inner.work + tail.work;
        return out;
    }

    private static Written list(List<Long> row, int[] code, int i) {
        if (row.size() < 2) {
            return null;
        }
        List<Long> turned = new ArrayList<>(new TreeSet<>(row));
        List<Long> numbers = new ArrayList<>();
        for (Long v : row) {
            numbers.add((long) turned.indexOf(v));
        }
        Written inner = write(turned, code, i + 1);
        if (inner == null) {
            return null;
        }
        Written out = new Written();
        out.bytes.add(5);
        out.bytes.add(turned.size());
        out.bytes.addAll(inner.bytes);
        out.laying(numbers, bits(turned.size() - 1));
        out.work = row.size() + inner.work;
        return out;
    }

    private static Written shares(List<Long> row, int[] code, int i) {
        java.math.BigInteger g = java.math.BigInteger.ZERO;
        for (long v : row) {
            if (v == Long.MIN_VALUE) {
                return null;
            }
            g = g.gcd(java.math.BigInteger.valueOf(v));
        }
        long divisor = g.longValue();
        if (divisor < 2) {
            return null;
        }
        List<Long> turned = new ArrayList<>();
        for (long v : row) {
            turned.add(v / divisor);
        }
        Written inner = write(turned, code, i + 1);
        if (inner == null) {
            return null;
        }
        Written out = new Written();
        out.bytes.add(6);
        out.varint(divisor);
        out.bytes.addAll(inner.bytes);
        out.work = row.size() + inner.work;
        return out;
    }

    private static List<int[]> codes(int depth) {
        List<int[]> all = new ArrayList<>();
        for (int turn = 0; turn < 7; turn++) {
            if (turn < 3) {
                all.add(new int[] {turn});
            } else if (depth > 0) {
                for (int[] inner : codes(depth - 1)) {
                    int[] code = new int[inner.length + 1];
                    code[0] = turn;
                    System.arraycopy(inner, 0, code, 1, inner.length);
                    all.add(code);
                }
            }
        }
        return all;
    }

    private static int check(List<Integer> bytes) {
        int h = 7;
        for (int b : bytes) {
            h = (31 * h + b) % 256;
        }
        return h;
    }

    /** A piece's bytes around a row that is written. */
    private static List<Integer> frame(List<Long> rows, Written row) {
        Written out = new Written();
        out.bytes.add(193);
        out.bytes.add(rows.size());
        if (rows.contains(null)) {
            List<Long> gaps = new ArrayList<>();
            for (Long v : rows) {
                gaps.add(v == null ? 1L : 0L);
            }
            out.bytes.add(1);
            out.laying(gaps, 1);
        } else {
            out.bytes.add(0);
        }
        out.bytes.addAll(row.bytes);
        out.bytes.add(check(out.bytes));
        return out.bytes;
    }

    private static List<Long> present(List<Long> rows) {
        List<Long> found = new ArrayList<>();
        for (Long v : rows) {
            if (v != null) {
                found.add(v);
            }
        }
        return found;
    }

    private static final class Fault extends RuntimeException {
        private static final long serialVersionUID = 1L;
        final int kind;
        final int place;

        Fault(int kind, int place) {
            this.kind = kind;
            this.place = place;
        }
    }

    /** Reads bytes turn within turn. */
    private static final class Reading {
        final List<Integer> bytes;
        final List<Integer> code = new ArrayList<>();
        int next = 0;
        int work = 0;

        Reading(List<Integer> bytes) {
            this.bytes = bytes;
        }

        int one() {
            if (next >= bytes.size()) {
                throw new Fault(1, bytes.size());
            }
            return bytes.get(next++);
        }

        long varint() {
            int where = next;
            java.math.BigInteger n = java.math.BigInteger.ZERO;
            for (int i = 0;; i++) {
                int b = one();
                n = n.add(java.math.BigInteger.valueOf(b & 127).shiftLeft(7 * i));
                if (n.bitLength() > 64 || i == 9 && b > 127) {
                    throw new Fault(2, where);
                }
                if (b < 128) {
                    return n.longValue();
                }
            }
        }

        long signed() {
            long u = varint();
            return (u & 1) == 0 ? u >>> 1 : -(u >>> 1) - 1;
        }

        long[] laying(int m, int w) {
            int length = (m * w + 7) / 8;
            int first = next;
            for (int i = 0; i < length; i++) {
                one();
            }
            long[] numbers = new long[m];
            for (int i = 0; i < m * w; i++) {
                if ((bytes.get(first + i / 8) >> i % 8 & 1) == 1) {
                    numbers[i / w] |= 1L << i % w;
                }
            }
            return numbers;
        }

        int in(int least, int most) {
            int where = next;
            int b = one();
            if (b < least || b > most) {
                throw new Fault(2, where);
            }
            return b;
        }

        List<Long> piece() {
            in(193, 193);
            int rows = in(1, 32);
            long[] gaps = in(0, 1) == 1 ? laying(rows, 1) : new long[rows];
            int m = 0;
            for (long gap : gaps) {
                m += gap == 0 ? 1 : 0;
            }
            long[] values = row(m, 1);
            int due = check(bytes.subList(0, next));
            int where = next;
            if (one() != due) {
                throw new Fault(4, where);
            }
            if (next < bytes.size()) {
                throw new Fault(4, next);
            }
            List<Long> all = new ArrayList<>();
            int taken = 0;
            for (long gap : gaps) {
                all.add(gap == 1 ? null : (Long) values[taken++]);
            }
            return all;
        }

        long[] row(int m, int deep) {
            int where = next;
            int turn = one();
            if (turn > 6 || deep > 3) {
                throw new Fault(3, where);
            }
            code.add(turn);
            work += m;
            long[] values = new long[m];
            if (turn == 0) {
                for (int i = 0; i < 8 * m; i++) {
                    values[i / 8] = values[i / 8] * 256 + one();
                }
            } else if (turn == 1) {
                values = narrow(m);
            } else if (turn == 2) {
                values = patched(m);
            } else if (turn == 3) {
                values = row(m, deep + 1);
                for (int i = 1; i < m; i++) {
                    values[i] += values[i - 1];
                }
            } else if (turn == 4) {
                values = runs(m, deep);
            } else if (turn == 5) {
                values = list(m, deep);
            } else {
                int place = next;
                long g = varint();
                if (Long.compareUnsigned(g, 2) < 0) {
                    throw new Fault(2, place);
                }
                values = row(m, deep + 1);
                for (int i = 0; i < m; i++) {
                    values[i] *= g;
                }
            }
            return values;
        }

        long[] narrow(int m) {
            long least = signed();
            long[] values = laying(m, in(0, 64));
            for (int i = 0; i < m; i++) {
                values[i] += least;
            }
            return values;
        }

        long[] patched(int m) {
            long base = signed();
            int w = in(0, 64);
            int k = in(0, m);
            TreeMap<Integer, Long> patches = new TreeMap<>();
            int place = -1;
            for (int i = 0; i < k; i++) {
                place = in(place + 1, m - 1);
                patches.put(place, signed());
            }
            long[] values = laying(m, w);
            for (int i = 0; i < m; i++) {
                values[i] = patches.containsKey(i) ? patches.get(i) : values[i] + base;
            }
            work += k;
            return values;
        }

        long[] runs(int m, int deep) {
            int k = in(1, m);
            long[] inner = row(k, deep + 1);
            int where = next;
            if (one() != 1) {
                throw new Fault(3, where);
            }
            long[] lengths = narrow(k);
            work += k;
            java.math.BigInteger all = java.math.BigInteger.ZERO;
            for (long length : lengths) {
                if (length < 1) {
                    throw new Fault(2, where);
                }
                all = all.add(java.math.BigInteger.valueOf(length));
            }
            if (!all.equals(java.math.BigInteger.valueOf(m))) {
                throw new Fault(2, where);
            }
            long[] values = new long[m];
            int at = 0;
            for (int i = 0; i < k; i++) {
                for (int j = 0; j < lengths[i]; j++) {
                    values[at++] = inner[i];
                }
            }
            return values;
        }

        long[] list(int m, int deep) {
            int k = in(1, m);
            long[] inner = row(k, deep + 1);
            int where = next;
            long[] numbers = laying(m, bits(k - 1));
            for (int i = 0; i < m; i++) {
                if (numbers[i] >= k) {
                    throw new Fault(2, where);
                }
                numbers[i] = inner[(int) numbers[i]];
            }
            return numbers;
        }
    }

    private static final class ModelPiece {
        List<Integer> bytes;
        int[] code;
        int work;
        final TreeSet<Integer> changed = new TreeSet<>();
    }

    private static final class ModelColumn {
        final List<Long> rows = new ArrayList<>();
        final List<ModelPiece> pieces = new ArrayList<>();
        boolean open = false;
        int depth = 2;
        int limit = 1000;

        int pieceCount() {
            return (rows.size() + 31) / 32;
        }

        boolean isOpen(int p) {
            return open && p == pieceCount() - 1;
        }

        List<Long> rowsOf(int p) {
            return rows.subList(32 * p, Math.min(rows.size(), 32 * p + 32));
        }

        void packPiece(int p) {
            List<Long> all = rowsOf(p);
            List<Long> values = present(all);
            ModelPiece best = null;
            for (int[] code : codes(depth)) {
                Written out = write(values, code, 0);
                if (out != null && out.work <= limit) {
                    List<Integer> bytes = frame(all, out);
                    if (best == null || bytes.size() < best.bytes.size()
                            || bytes.size() == best.bytes.size() && out.work < best.work) {
                        best = new ModelPiece();
                        best.bytes = bytes;
                        best.code = code;
                        best.work = out.work;
                    }
                }
            }
            while (pieces.size() <= p) {
                pieces.add(null);
            }
            pieces.set(p, best);
        }

        int add(Long v) {
            if (rows.size() >= 160) {
                return -1;
            }
            rows.add(v);
            open = true;
            if (rows.size() % 32 == 0) {
                packPiece(pieceCount() - 1);
                open = false;
            }
            return rows.size() - 1;
        }
    }

    private static final class Model {
        final ModelColumn[] columns = {new ModelColumn(), new ModelColumn(), new ModelColumn(), new ModelColumn()};
        final List<Integer> tape = new ArrayList<>();
        List<int[]> shown = new ArrayList<>();
        int lookedAt = 0;
        int kind = 0;
        int place = -1;

        ModelColumn of(int c) {
            return c < 0 || c > 3 ? null : columns[c];
        }

        int feed(int... numbers) {
            if (tape.size() > 280) {
                return -1;
            }
            for (int n : numbers) {
                for (int k = 3; k >= 0; k--) {
                    tape.add(n >>> 8 * k & 255);
                }
            }
            return tape.size();
        }

        boolean end(int n) {
            if (n < 0 || n > tape.size()) {
                return false;
            }
            tape.subList(n, tape.size()).clear();
            return true;
        }

        boolean way(int c, int depth, int limit) {
            if (of(c) == null || depth < 0 || depth > 2 || limit < 32 || limit > 1000) {
                return false;
            }
            of(c).depth = depth;
            of(c).limit = limit;
            return true;
        }

        int value(int c, long v) {
            return of(c) == null ? -1 : of(c).add(v);
        }

        int missing(int c) {
            return of(c) == null ? -1 : of(c).add(null);
        }

        int sow(int c, int n, int seed, long first, long step, int spread, long by) {
            if (of(c) == null || n < 1 || n > 64 || spread < 1 || spread > 1000000 || of(c).rows.size() + n > 160) {
                return -1;
            }
            int g = seed;
            for (int i = 0; i < n; i++) {
                g = 1103515245 * g + 12345;
                of(c).add(first + step * i + (g >>> 8) % spread * by);
            }
            return of(c).rows.size();
        }

        boolean hasRow(int c, int row) {
            return of(c) != null && row >= 0 && row < of(c).rows.size();
        }

        boolean hasPiece(int c, int p) {
            return of(c) != null && p >= 0 && p < of(c).pieceCount();
        }

        boolean hasPacked(int c, int p) {
            return hasPiece(c, p) && !of(c).isOpen(p);
        }

        int set(int c, int row, long v) {
            if (!hasRow(c, row)) {
                return -1;
            }
            int p = row / 32;
            of(c).rows.set(row, v);
            if (of(c).isOpen(p)) {
                return 0;
            }
            ModelPiece piece = of(c).pieces.get(p);
            piece.changed.add(row);
            if (piece.changed.size() == 5) {
                of(c).packPiece(p);
                return 0;
            }
            return piece.changed.size();
        }

        int pack(int c) {
            if (of(c) == null) {
                return -1;
            }
            int bytes = 0;
            for (int p = 0; p < of(c).pieceCount(); p++) {
                of(c).packPiece(p);
                bytes += of(c).pieces.get(p).bytes.size();
            }
            of(c).open = false;
            return bytes;
        }

        int clear(int c) {
            if (of(c) == null) {
                return -1;
            }
            int n = of(c).rows.size();
            of(c).rows.clear();
            of(c).pieces.clear();
            of(c).open = false;
            return n;
        }

        int count(int c, int what) {
            if (of(c) == null || what < 0 || what > 3) {
                return -1;
            }
            if (what < 2) {
                return what == 0 ? of(c).rows.size() : of(c).pieceCount();
            }
            if (what == 2) {
                return of(c).rows.size() - present(of(c).rows).size();
            }
            int bytes = 0;
            for (int p = 0; p < of(c).pieceCount(); p++) {
                bytes += of(c).isOpen(p) ? 0 : of(c).pieces.get(p).bytes.size();
            }
            return bytes;
        }

        int has(int c, int row) {
            return !hasRow(c, row) ? -1 : of(c).rows.get(row) == null ? 0 : 1;
        }

        long get(int c, int row) {
            return has(c, row) == 1 ? of(c).rows.get(row) : 0L;
        }

        int piece(int c, int p, int what) {
            if (!hasPiece(c, p) || what < 0 || what > 4) {
                return -1;
            }
            boolean open = of(c).isOpen(p);
            ModelPiece piece = open ? null : of(c).pieces.get(p);
            int[] answers = {of(c).rowsOf(p).size(), open ? 0 : piece.bytes.size(), open ? -1 : piece.work,
                open ? 0 : piece.changed.size(), open ? 1 : 0};
            return answers[what];
        }

        int at(int c, int p, int i) {
            return !hasPacked(c, p) || i < 0 || i >= of(c).pieces.get(p).bytes.size() ? -1
                    : of(c).pieces.get(p).bytes.get(i);
        }

        int code(int c, int p, int i) {
            return !hasPacked(c, p) || i < 0 || i >= of(c).pieces.get(p).code.length ? -1
                    : of(c).pieces.get(p).code[i];
        }

        int front(int c, int p) {
            if (!hasPiece(c, p)) {
                return -1;
            }
            List<int[]> all = new ArrayList<>();
            for (int[] code : codes(of(c).depth)) {
                Written out = write(present(of(c).rowsOf(p)), code, 0);
                if (out != null) {
                    all.add(new int[] {frame(of(c).rowsOf(p), out).size(), out.work});
                }
            }
            TreeMap<Integer, int[]> kept = new TreeMap<>();
            for (int[] one : all) {
                boolean bettered = false;
                for (int[] other : all) {
                    bettered |= other[0] < one[0] && other[1] <= one[1] || other[1] < one[1] && other[0] <= one[0];
                }
                if (!bettered) {
                    kept.put(one[0], one);
                }
            }
            shown = new ArrayList<>(kept.values());
            return shown.size();
        }

        int pair(int k, int what) {
            return k < 0 || k >= shown.size() || what < 0 || what > 1 ? -1 : shown.get(k)[what];
        }

        long ask(int c, long least, long greatest, boolean among) {
            int looked = 0;
            long sum = 0;
            int found = 0;
            for (int p = 0; p < of(c).pieceCount(); p++) {
                List<Long> values = present(of(c).rowsOf(p));
                for (long v : values) {
                    if (v >= least && v <= greatest) {
                        found++;
                        sum += v;
                    }
                }
                if (!of(c).isOpen(p) && !values.isEmpty()) {
                    long low = new TreeSet<>(values).first();
                    long high = new TreeSet<>(values).last();
                    boolean apart = high < least || low > greatest;
                    boolean within = low >= least && high <= greatest;
                    looked += apart || among && within ? 0 : 1;
                }
            }
            lookedAt = looked;
            return among ? found : sum;
        }

        int among(int c, long least, long greatest) {
            return of(c) == null ? -1 : (int) ask(c, least, greatest, true);
        }

        long sum(int c, long least, long greatest) {
            return of(c) == null ? 0 : ask(c, least, greatest, false);
        }

        int looked() {
            return lookedAt;
        }

        int take(int c, int p) {
            if (!hasPacked(c, p) || !of(c).pieces.get(p).changed.isEmpty()) {
                return -1;
            }
            tape.clear();
            tape.addAll(of(c).pieces.get(p).bytes);
            return tape.size();
        }

        int load(int c) {
            List<Integer> bytes = new ArrayList<>(tape);
            tape.clear();
            kind = 0;
            place = -1;
            Reading reading = new Reading(bytes);
            List<Long> read;
            try {
                read = reading.piece();
            } catch (Fault f) {
                kind = f.kind;
                place = f.place;
                return -1;
            }
            ModelColumn column = of(c);
            if (column == null || column.rows.size() + read.size() > 160) {
                return -2;
            }
            if (column.rows.size() % 32 != 0) {
                for (Long v : read) {
                    column.add(v);
                }
                return column.rows.size();
            }
            ModelPiece piece = new ModelPiece();
            piece.bytes = bytes;
            piece.code = reading.code.stream().mapToInt(Integer::intValue).toArray();
            piece.work = reading.work;
            int p = column.rows.size() / 32;
            column.rows.addAll(read);
            while (column.pieces.size() <= p) {
                column.pieces.add(null);
            }
            column.pieces.set(p, piece);
            column.open = false;
            return column.rows.size();
        }

        int fault(int what) {
            return what == 0 ? kind : what == 1 ? place : -1;
        }
    }

    /** Makes bytes that are, or nearly are, those of a piece. */
    private static final class Forger {
        final Random random;

        Forger(Random random) {
            this.random = random;
        }

        List<Integer> forge() {
            List<Integer> bytes = random.nextInt(3) == 0 ? written() : wild();
            for (int i = random.nextInt(3); i > 0 && !bytes.isEmpty(); i--) {
                breakOne(bytes);
            }
            if (random.nextInt(6) > 0 && !bytes.isEmpty()) {
                int last = bytes.size() - 1;
                bytes.set(last, check(bytes.subList(0, last)));
            }
            if (random.nextInt(8) == 0) {
                bytes.add(random.nextInt(256));
            }
            return bytes;
        }

        void breakOne(List<Integer> bytes) {
            int i = random.nextInt(bytes.size());
            int kind = random.nextInt(6);
            if (kind == 0) {
                bytes.subList(i, bytes.size()).clear();
            } else if (kind == 1) {
                bytes.set(i, random.nextInt(256));
            } else if (kind == 2) {
                bytes.set(i, bytes.get(i) ^ 1 << random.nextInt(8));
            } else if (kind == 3) {
                bytes.set(i, random.nextInt(8));
            } else if (kind == 4) {
                bytes.add(i, random.nextInt(8));
            } else {
                bytes.remove(i);
            }
        }

        List<Integer> written() {
            List<Long> rows = new ArrayList<>();
            int n = 1 + random.nextInt(32);
            for (int i = 0; i < n; i++) {
                rows.add(random.nextInt(9) == 0 ? null : (Long) (random.nextInt(4) * 6L - 6));
            }
            List<int[]> codes = codes(2);
            Written row = null;
            while (row == null) {
                row = write(present(rows), codes.get(random.nextInt(codes.size())), 0);
            }
            return frame(rows, row);
        }

        /** Turns in any order around rows that fit, each kind of byte now and then an unfit one. */
        List<Integer> wild() {
            Written out = new Written();
            int n = 1 + random.nextInt(random.nextBoolean() ? 32 : 6);
            out.bytes.add(193);
            out.bytes.add(n);
            int m = n;
            if (random.nextInt(3) == 0) {
                out.bytes.add(1);
                List<Long> gaps = new ArrayList<>();
                boolean all = random.nextInt(4) == 0;
                for (int i = 0; i < n; i++) {
                    long gap = all ? 1 : random.nextInt(2);
                    gaps.add(gap);
                    m -= (int) gap;
                }
                out.laying(gaps, 1);
            } else {
                out.bytes.add(0);
            }
            wildRow(out, m, 1);
            out.bytes.add(check(out.bytes));
            return out.bytes;
        }

        int wildWidth() {
            return random.nextInt(20) == 0 ? 60 + random.nextInt(8) : random.nextInt(5);
        }

        void wildVarint(Written out) {
            int kind = random.nextInt(12);
            if (kind == 0) {
                for (int i = 0; i < 9; i++) {
                    out.bytes.add(128 + random.nextInt(128));
                }
                out.bytes.add(random.nextInt(random.nextBoolean() ? 2 : 256));
            } else if (kind == 1) {
                out.bytes.add(128);
                out.bytes.add(random.nextInt(2));
            } else {
                out.varint(random.nextLong() >>> random.nextInt(64));
            }
        }

        void wildLaying(Written out, int m, int w, int below) {
            List<Long> numbers = new ArrayList<>();
            for (int i = 0; i < m; i++) {
                numbers.add(below > 0 && random.nextInt(60) > 0 ? random.nextInt(below) : random.nextLong());
            }
            out.laying(numbers, w);
        }

        void wildRow(Written out, int m, int deep) {
            int turn = random.nextInt(40) == 0 ? random.nextInt(256) : deep == 3 && random.nextInt(8) > 0
                    ? random.nextInt(3) : random.nextInt(7);
            out.bytes.add(turn);
            if (deep > 4) {
                return;
            }
            if (turn == 0) {
                wildLaying(out, m, 64, 0);
            } else if (turn == 1) {
                wildVarint(out);
                int w = wildWidth();
                out.bytes.add(w);
                wildLaying(out, m, w, 0);
            } else if (turn == 2) {
                wildPatched(out, m);
            } else if (turn == 3) {
                wildRow(out, m, deep + 1);
            } else if (turn == 4 || turn == 5) {
                int k = random.nextInt(12) == 0 ? random.nextInt(40) : 1 + random.nextInt(Math.max(1, m));
                out.bytes.add(k);
                wildRow(out, k, deep + 1);
                if (turn == 5) {
                    wildLaying(out, m, bits(k - 1), k);
                } else {
                    wildLengths(out, m, k);
                }
            } else if (turn == 6) {
                if (random.nextInt(6) == 0) {
                    out.varint(random.nextInt(3));
                } else {
                    wildVarint(out);
                }
                wildRow(out, m, deep + 1);
            }
        }

        void wildPatched(Written out, int m) {
            wildVarint(out);
            int w = wildWidth();
            out.bytes.add(w);
            TreeSet<Integer> places = new TreeSet<>();
            for (int i = random.nextInt(4); i > 0 && m > 0; i--) {
                places.add(random.nextInt(m));
            }
            out.bytes.add(random.nextInt(20) == 0 ? random.nextInt(40) : places.size());
            for (int place : places) {
                out.bytes.add(random.nextInt(20) == 0 ? random.nextInt(33) : place);
                wildVarint(out);
            }
            wildLaying(out, m, w, 0);
        }

        void wildLengths(Written out, int m, int k) {
            long[] lengths = new long[k];
            Arrays.fill(lengths, 1);
            for (int i = k; i < m && k > 0; i++) {
                lengths[random.nextInt(k)]++;
            }
            if (k > 0 && random.nextInt(12) == 0) {
                lengths[random.nextInt(k)] += random.nextInt(3) - 1;
            }
            List<Long> row = new ArrayList<>();
            for (long length : lengths) {
                row.add(length);
            }
            Written narrow = narrow(row);
            if (random.nextInt(20) == 0) {
                narrow.bytes.set(0, random.nextInt(4));
            }
            out.bytes.addAll(narrow.bytes);
        }
    }
}
