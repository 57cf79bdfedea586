/** Four columns of up to 160 rows, kept in pieces of 32 rows, each laid in as few bytes as may be. */
public final class PackedColumns {
    public static final int NONE = -1;

    private static final int COLUMNS = 4;
    private static final int MOST_ROWS = 160;
    private static final int PIECE_ROWS = 32;
    private static final int MOST_PIECES = 5;
    private static final int MOST_CHANGES = 4;
    private static final int MOST_SOWN = 64;
    private static final int MOST_SPREAD = 1000000;
    private static final int TAPE_BYTES = 300;
    private static final int FED_BYTES = 20;
    private static final int MOST_DEPTH = 2;
    private static final int MOST_TURNS = 3;
    private static final int LEAST_LIMIT = 32;
    private static final int MOST_LIMIT = 1000;
    /** More than the 63 ways that a row has at the greatest depth. */
    private static final int MOST_WAYS = 64;

    private static final int MARK = 193;
    private static final int PLAIN = 0;
    private static final int NARROW = 1;
    private static final int PATCHED = 2;
    private static final int STEPS = 3;
    private static final int RUNS = 4;
    private static final int LIST = 5;
    private static final int SHARES = 6;
    /** A code is held as one number, of which each turn is a digit. */
    private static final int CODE_BASE = 8;

    private static final int LACKING = 1;
    private static final int IMPOSSIBLE = 2;
    private static final int WRONG_TURN = 3;
    private static final int WRONG_CHECK = 4;
    private static final int REFUSED_LOAD = -2;

    private final Column[] columns = new Column[COLUMNS];
    private final Bytes tape = new Bytes();
    private final Reader reader = new Reader();
    private final Packer packer = new Packer();
    private final Block loaded = new Block();
    private final Front shown = new Front();
    private final Tally tally = new Tally();
    private int faultKind = 0;
    private int faultPlace = NONE;

    public PackedColumns() {
        Block scratch = new Block();
        for (int c = 0; c < COLUMNS; c++) {
            columns[c] = new Column(packer, reader, scratch);
        }
    }

    public int feed(int a, int b, int c, int d, int e) {
        if (tape.size() + FED_BYTES > TAPE_BYTES) {
            return NONE;
        }
        tape.putInt(a);
        tape.putInt(b);
        tape.putInt(c);
        tape.putInt(d);
        tape.putInt(e);
        return tape.size();
    }

    public boolean end(int n) {
        return tape.cutTo(n);
    }

    public boolean way(int column, int depth, int limit) {
        Column found = columnOf(column);
        if (found == null || depth < 0 || depth > MOST_DEPTH || limit < LEAST_LIMIT || limit > MOST_LIMIT) {
            return false;
        }
        found.choose(depth, limit);
        return true;
    }

    public int value(int column, long v) {
        Column found = columnOf(column);
        return found == null ? NONE : found.append(false, v);
    }

    public int missing(int column) {
        Column found = columnOf(column);
        return found == null ? NONE : found.append(true, 0L);
    }

    public int sow(int column, int n, int seed, long first, long step, int spread, long by) {
        Column found = columnOf(column);
        if (found == null || n < 1 || n > MOST_SOWN || spread < 1 || spread > MOST_SPREAD
                || found.size() + n > MOST_ROWS) {
            return NONE;
        }
        int g = seed;
        for (int i = 0; i < n; i++) {
            g = 1103515245 * g + 12345;
            found.append(false, first + step * i + ((g >>> 8) % spread) * by);
        }
        return found.size();
    }

    public int set(int column, int row, long v) {
        Column found = columnOf(column);
        return found == null || !found.holds(row) ? NONE : found.change(row, v);
    }

    public int pack(int column) {
        Column found = columnOf(column);
        if (found == null) {
            return NONE;
        }
        found.packAll();
        return found.byteTotal();
    }

    public int clear(int column) {
        Column found = columnOf(column);
        return found == null ? NONE : found.empty();
    }

    public int count(int column, int what) {
        Column found = columnOf(column);
        if (found == null) {
            return NONE;
        }
        switch (what) {
            case 0:
                return found.size();
            case 1:
                return found.pieceTotal();
            case 2:
                return found.gapTotal();
            case 3:
                return found.byteTotal();
            default:
                return NONE;
        }
    }

    public int has(int column, int row) {
        Column found = columnOf(column);
        if (found == null || !found.holds(row)) {
            return NONE;
        }
        return found.blockOf(row / PIECE_ROWS).isGap(row % PIECE_ROWS) ? 0 : 1;
    }

    public long get(int column, int row) {
        Column found = columnOf(column);
        if (found == null || !found.holds(row)) {
            return 0L;
        }
        return found.blockOf(row / PIECE_ROWS).valueAt(row % PIECE_ROWS);
    }

    public int piece(int column, int p, int what) {
        Column found = columnOf(column);
        if (found == null || !found.holdsPiece(p)) {
            return NONE;
        }
        switch (what) {
            case 0:
                return found.rowsOf(p);
            case 1:
                return found.isOpen(p) ? 0 : found.pieceAt(p).size();
            case 2:
                return found.isOpen(p) ? NONE : found.pieceAt(p).workToRead();
            case 3:
                return found.isOpen(p) ? 0 : found.pieceAt(p).changeTotal();
            case 4:
                return found.isOpen(p) ? 1 : 0;
            default:
                return NONE;
        }
    }

    public int at(int column, int p, int i) {
        Piece found = packedPiece(column, p);
        return found == null ? NONE : found.byteAt(i);
    }

    public int code(int column, int p, int i) {
        Piece found = packedPiece(column, p);
        return found == null ? NONE : turnAt(found.pathWritten(), i);
    }

    public int front(int column, int p) {
        Column found = columnOf(column);
        if (found == null || !found.holdsPiece(p)) {
            return NONE;
        }
        found.survey(p, shown);
        return shown.size();
    }

    public int pair(int k, int what) {
        switch (what) {
            case 0:
                return shown.bytesAt(k);
            case 1:
                return shown.workAt(k);
            default:
                return NONE;
        }
    }

    public int among(int column, long least, long greatest) {
        Column found = columnOf(column);
        if (found == null) {
            return NONE;
        }
        found.ask(least, greatest, true, tally);
        return tally.found();
    }

    public long sum(int column, long least, long greatest) {
        Column found = columnOf(column);
        if (found == null) {
            return 0L;
        }
        found.ask(least, greatest, false, tally);
        return tally.total();
    }

    public int looked() {
        return tally.unpacked();
    }

    public int take(int column, int p) {
        Piece found = packedPiece(column, p);
        if (found == null || found.changeTotal() > 0) {
            return NONE;
        }
        found.copyTo(tape);
        return tape.size();
    }

    public int load(int column) {
        faultKind = 0;
        faultPlace = NONE;
        Column found = columnOf(column);
        int answer = REFUSED_LOAD;
        // The bytes are read whatever the column is: a fault in them stands ahead of a column that is none.
        if (!reader.read(tape, loaded)) {
            faultKind = reader.kindOfFault();
            faultPlace = reader.placeOfFault();
            answer = NONE;
        } else if (found != null && found.size() + loaded.size() <= MOST_ROWS) {
            boolean whole = found.size() % PIECE_ROWS == 0;
            if (whole) {
                found.keep(tape, loaded, reader.pathRead(), reader.workRead());
            }
            for (int i = 0; !whole && i < loaded.size(); i++) {
                found.append(loaded.isGap(i), loaded.valueAt(i));
            }
            answer = found.size();
        }
        tape.cutTo(0);
        return answer;
    }

    public int fault(int what) {
        switch (what) {
            case 0:
                return faultKind;
            case 1:
                return faultPlace;
            default:
                return NONE;
        }
    }

    private Column columnOf(int column) {
        return column < 0 || column >= COLUMNS ? null : columns[column];
    }

    private Piece packedPiece(int column, int p) {
        Column found = columnOf(column);
        return found == null || !found.holdsPiece(p) || found.isOpen(p) ? null : found.pieceAt(p);
    }

    private static int bitsOf(long unsigned) {
        return 64 - Long.numberOfLeadingZeros(unsigned);
    }

    private static long unsignedOf(long v) {
        return (v << 1) ^ (v >> 63);
    }

    private static long signedOf(long unsigned) {
        return (unsigned >>> 1) ^ -(unsigned & 1L);
    }

    /** Seven bits a byte, and a byte for 0 as well. */
    private static int varintLength(long unsigned) {
        return (70 - Long.numberOfLeadingZeros(unsigned | 1L)) / 7;
    }

    private static int layingLength(int numbers, int width) {
        return (numbers * width + 7) / 8;
    }

    /** Every turn but the innermost one is 3 or more, so that a code's size tells how many it has. */
    private static int pathLength(int path) {
        if (path < CODE_BASE) {
            return 1;
        }
        return path < CODE_BASE * CODE_BASE ? 2 : 3;
    }

    private static int turnAt(int path, int i) {
        int behind = pathLength(path) - 1 - i;
        if (i < 0 || behind < 0) {
            return NONE;
        }
        int rest = path;
        for (int k = 0; k < behind; k++) {
            rest = rest / CODE_BASE;
        }
        return rest % CODE_BASE;
    }

    /** A row of bytes with an end: the tape, or what a piece is written in. */
    private static final class Bytes {
        private final byte[] cells = new byte[TAPE_BYTES];
        private int length = 0;

        int size() {
            return length;
        }

        boolean cutTo(int n) {
            if (n < 0 || n > length) {
                return false;
            }
            length = n;
            return true;
        }

        int byteAt(int i) {
            return i < 0 || i >= length || i >= cells.length ? NONE : cells[i] & 255;
        }

        void put(int b) {
            if (length >= 0 && length < cells.length) {
                cells[length] = (byte) b;
                length++;
            }
        }

        void putInt(int n) {
            for (int shift = 24; shift >= 0; shift -= 8) {
                put(n >>> shift);
            }
        }

        void putLong(long v) {
            for (int shift = 56; shift >= 0; shift -= 8) {
                put((int) (v >>> shift));
            }
        }

        void putVarint(long unsigned) {
            int more = varintLength(unsigned) - 1;
            for (int i = 0; i < more; i++) {
                put((int) (unsigned >>> (7 * i)) & 127 | 128);
            }
            put((int) (unsigned >>> (7 * more)) & 127);
        }

        /** Room for a laying, all 0s: the place of its first bit. */
        int reserve(int bytes) {
            int first = length * 8;
            for (int i = 0; i < bytes; i++) {
                put(0);
            }
            return first;
        }

        void putBits(int from, int width, long bits) {
            int done = 0;
            for (int step = 0; step < 9 && done < width; step++) {
                int cell = (from + done) / 8;
                int shift = (from + done) % 8;
                int fitting = Math.min(8 - shift, width - done);
                if (cell >= 0 && cell < length && cell < cells.length) {
                    int part = (int) (bits >>> done) & ((1 << fitting) - 1);
                    cells[cell] = (byte) (cells[cell] | part << shift);
                }
                done += fitting;
            }
        }

        long bitsAt(int from, int width) {
            long bits = 0L;
            int done = 0;
            for (int step = 0; step < 9 && done < width; step++) {
                int cell = (from + done) / 8;
                int shift = (from + done) % 8;
                int fitting = Math.min(8 - shift, width - done);
                if (cell >= 0 && cell < length && cell < cells.length) {
                    long part = (cells[cell] & 255) >>> shift & ((1 << fitting) - 1);
                    bits |= part << done;
                }
                done += fitting;
            }
            return bits;
        }

        int checkOf(int bytes) {
            int h = 7;
            for (int i = 0; i < bytes && i < length && i < cells.length; i++) {
                h = (31 * h + (cells[i] & 255)) & 255;
            }
            return h;
        }

        void become(Bytes other) {
            length = Math.min(other.length, cells.length);
            System.arraycopy(other.cells, 0, cells, 0, length);
        }
    }

    /** The rows of a piece, unpacked. */
    private static final class Block {
        private final long[] values = new long[PIECE_ROWS];
        private final boolean[] gaps = new boolean[PIECE_ROWS];
        private int rows = 0;

        int size() {
            return rows;
        }

        boolean isGap(int row) {
            return row < 0 || row >= rows || row >= gaps.length || gaps[row];
        }

        long valueAt(int row) {
            return isGap(row) ? 0L : values[row];
        }

        void empty() {
            rows = 0;
        }

        void add(boolean gap, long v) {
            if (rows >= 0 && rows < values.length && rows < gaps.length) {
                gaps[rows] = gap;
                values[rows] = gap ? 0L : v;
                rows++;
            }
        }

        void change(int row, long v) {
            if (row >= 0 && row < rows && row < values.length && row < gaps.length) {
                gaps[row] = false;
                values[row] = v;
            }
        }

        int present() {
            int found = 0;
            for (int i = 0; i < rows; i++) {
                found += isGap(i) ? 0 : 1;
            }
            return found;
        }

        void become(Block other) {
            empty();
            for (int i = 0; i < other.rows; i++) {
                add(other.isGap(i), other.valueAt(i));
            }
        }

        void tellTo(Tally tally, long least, long greatest) {
            for (int i = 0; i < rows; i++) {
                long v = valueAt(i);
                if (!isGap(i) && v >= least && v <= greatest) {
                    tally.add(1, v);
                }
            }
        }
    }

    /** What an among() or a sum() has found so far. */
    private static final class Tally {
        private int found = 0;
        private long total = 0L;
        private int unpacked = 0;

        int found() {
            return found;
        }

        long total() {
            return total;
        }

        int unpacked() {
            return unpacked;
        }

        void empty() {
            found = 0;
            total = 0L;
            unpacked = 0;
        }

        void add(int rows, long v) {
            found += rows;
            total += v;
        }

        void noteUnpacked() {
            unpacked++;
        }
    }

    /** A row of values without gaps, with the unlike ones of them, rising. */
    private static final class Row {
        private final long[] values = new long[PIECE_ROWS];
        private final long[] rising = new long[PIECE_ROWS];
        private final int[] times = new int[PIECE_ROWS];
        private int size = 0;
        private int unlike = 0;

        int size() {
            return size;
        }

        long valueAt(int i) {
            return i < 0 || i >= size || i >= values.length ? 0L : values[i];
        }

        int unlike() {
            return unlike;
        }

        long unlikeAt(int i) {
            return i < 0 || i >= unlike || i >= rising.length ? 0L : rising[i];
        }

        int timesOf(int i) {
            return i < 0 || i >= unlike || i >= times.length ? 0 : times[i];
        }

        void empty() {
            size = 0;
            unlike = 0;
        }

        void add(long v) {
            if (size >= 0 && size < values.length) {
                values[size] = v;
                size++;
            }
        }

        void put(int i, long v) {
            if (i >= 0 && i < size && i < values.length) {
                values[i] = v;
            }
        }

        void gather(Block block) {
            empty();
            for (int i = 0; i < block.size(); i++) {
                if (!block.isGap(i)) {
                    add(block.valueAt(i));
                }
            }
        }

        /** Finds the unlike values; the row's ends, its list and its patches are told from them. */
        void arrange() {
            unlike = 0;
            for (int i = 0; i < size; i++) {
                long v = valueAt(i);
                int place = rankOf(v);
                if (place < unlike && unlikeAt(place) == v) {
                    times[place]++;
                } else {
                    insert(place, v);
                }
            }
        }

        /** How many of the unlike values are below v. */
        int rankOf(long v) {
            int low = 0;
            int high = unlike;
            for (int step = 0; step < PIECE_ROWS && low < high; step++) {
                int middle = (low + high) / 2;
                if (unlikeAt(middle) < v) {
                    low = middle + 1;
                } else {
                    high = middle;
                }
            }
            return low;
        }

        private void insert(int place, long v) {
            if (place < 0 || place > unlike || unlike >= rising.length || unlike >= times.length) {
                return;
            }
            System.arraycopy(rising, place, rising, place + 1, unlike - place);
            System.arraycopy(times, place, times, place + 1, unlike - place);
            rising[place] = v;
            times[place] = 1;
            unlike++;
        }

        long least() {
            long least = size > 0 ? values[0] : 0L;
            for (int i = 1; i < size && i < values.length; i++) {
                least = Math.min(least, values[i]);
            }
            return least;
        }

        /** The bits of the greatest value less the least one. */
        int width(long least) {
            long greatest = least;
            for (int i = 0; i < size && i < values.length; i++) {
                greatest = Math.max(greatest, values[i]);
            }
            return 64 - Long.numberOfLeadingZeros(greatest - least);
        }

        int narrowLength() {
            long least = least();
            return 2 + varintLength(unsignedOf(least)) + layingLength(size, width(least));
        }

        boolean isRising() {
            for (int i = 1; i < size; i++) {
                if (valueAt(i) <= valueAt(i - 1)) {
                    return false;
                }
            }
            return true;
        }

        /** The greatest divisor of all values; 0 if there is none that may be used. */
        long divisor() {
            long g = 0L;
            for (int i = 0; i < size; i++) {
                long v = valueAt(i);
                if (v == Long.MIN_VALUE) {
                    return 0L;
                }
                g = commonOf(g, Math.abs(v));
            }
            return g;
        }

        private static long commonOf(long a, long b) {
            long greater = a;
            long lesser = b;
            for (int step = 0; step < 128 && lesser != 0L; step++) {
                long rest = greater % lesser;
                greater = lesser;
                lesser = rest;
            }
            return greater;
        }

        /** Takes on what a turn leaves of another row (a list needs that row arranged). */
        void becomeTurned(Row other, int turn) {
            empty();
            switch (turn) {
                case STEPS:
                    for (int i = 0; i < other.size; i++) {
                        add(i == 0 ? other.valueAt(0) : other.valueAt(i) - other.valueAt(i - 1));
                    }
                    break;
                case RUNS:
                    for (int i = 0; i < other.size; i++) {
                        if (other.beginsRun(i)) {
                            add(other.valueAt(i));
                        }
                    }
                    break;
                case LIST:
                    for (int i = 0; i < other.unlike; i++) {
                        add(other.unlikeAt(i));
                    }
                    break;
                default:
                    becomeShares(other, other.divisor());
                    break;
            }
        }

        private void becomeShares(Row other, long g) {
            if (g < 2L) {
                return;
            }
            for (int i = 0; i < other.size; i++) {
                add(other.valueAt(i) / g);
            }
        }

        private boolean beginsRun(int i) {
            return i < 1 || i >= size || i >= values.length || values[i] != values[i - 1];
        }

        void become(Row other) {
            empty();
            for (int i = 0; i < other.size; i++) {
                add(other.valueAt(i));
            }
        }

        void becomeLengths(Row other) {
            empty();
            for (int i = 0; i < other.size; i++) {
                if (other.beginsRun(i)) {
                    add(1L);
                } else {
                    put(size - 1, valueAt(size - 1) + 1L);
                }
            }
        }
    }

    /** The base and width by which a row has the fewest bytes as a patched one. */
    private static final class Patch {
        private final int[] lengths = new int[PIECE_ROWS];
        private long base = 0L;
        private int width = 0;
        private int outside = 0;
        private int bytes = 0;

        long base() {
            return base;
        }

        int width() {
            return width;
        }

        int outside() {
            return outside;
        }

        int size() {
            return bytes;
        }

        /** The row must be arranged. A base is tried after all lesser ones, so that the least one stays. */
        void fit(Row row) {
            bytes = Integer.MAX_VALUE;
            for (int i = 0; i < row.unlike() && i < lengths.length; i++) {
                lengths[i] = varintLength(unsignedOf(row.unlikeAt(i)));
            }
            int below = 0;
            int rowsBelow = 0;
            for (int i = 0; i < row.unlike() && i < lengths.length && 4 + below <= bytes; i++) {
                tryBase(row, i, below, rowsBelow);
                below += row.timesOf(i) * (1 + lengths[i]);
                rowsBelow += row.timesOf(i);
            }
        }

        /** Goes down from the greatest value, so that each width is first met at the last value it reaches. */
        private void tryBase(Row row, int first, int below, int rowsBelow) {
            if (first < 0 || first >= lengths.length) {
                return;
            }
            long b = row.unlikeAt(first);
            int spent = 3 + lengths[first] + below;
            int rowsOut = rowsBelow;
            int widthMet = 64;
            for (int j = Math.min(row.unlike(), lengths.length) - 1; j >= first && spent <= bytes; j--) {
                int w = bitsOf(row.unlikeAt(j) - b);
                if (w < widthMet) {
                    widthMet = w;
                    keepIfBetter(b, w, rowsOut, spent + layingLength(row.size(), w));
                }
                spent += row.timesOf(j) * (1 + lengths[j]);
                rowsOut += row.timesOf(j);
            }
        }

        private void keepIfBetter(long b, int w, int rowsOut, int cost) {
            if (cost < bytes || cost == bytes && w < width) {
                base = b;
                width = w;
                outside = rowsOut;
                bytes = cost;
            }
        }

        boolean covers(long v) {
            return v >= base && bitsOf(v - base) <= width;
        }
    }

    /** The pairs of bytes and work that no way betters, by rising bytes, each with its first code. */
    private static final class Front {
        private final int[] bytes = new int[MOST_WAYS];
        private final int[] works = new int[MOST_WAYS];
        private final int[] paths = new int[MOST_WAYS];
        private int size = 0;

        int size() {
            return size;
        }

        int bytesAt(int k) {
            return k < 0 || k >= size || k >= bytes.length ? NONE : bytes[k];
        }

        int workAt(int k) {
            return k < 0 || k >= size || k >= works.length ? NONE : works[k];
        }

        int pathAt(int k) {
            return k < 0 || k >= size || k >= paths.length ? NONE : paths[k];
        }

        void empty() {
            size = 0;
        }

        /** Ways are offered by rising codes: of like pairs the first one stays. */
        void offer(int newBytes, int newWork, int path) {
            int kept = 0;
            int place = 0;
            for (int k = 0; k < size && k < MOST_WAYS; k++) {
                if (bytes[k] <= newBytes && works[k] <= newWork) {
                    return;
                }
                if (bytes[k] < newBytes || works[k] < newWork) {
                    put(kept, bytes[k], works[k], paths[k]);
                    kept++;
                    place = bytes[k] < newBytes ? kept : place;
                }
            }
            size = Math.min(kept, MOST_WAYS - 1);
            for (int k = size; k > place && k > 0; k--) {
                put(k, bytes[k - 1], works[k - 1], paths[k - 1]);
            }
            put(place, newBytes, newWork, path);
            size++;
        }

        private void put(int k, int newBytes, int newWork, int path) {
            if (k >= 0 && k < MOST_WAYS) {
                bytes[k] = newBytes;
                works[k] = newWork;
                paths[k] = path;
            }
        }

        /** The pair with the fewest bytes of those with so much work at most. */
        int firstWithin(int limit) {
            for (int k = 0; k < size && k < MOST_WAYS; k++) {
                if (works[k] <= limit) {
                    return k;
                }
            }
            return NONE;
        }
    }

    /** Finds the ways of a block's row and writes the block by the best of them. */
    private static final class Packer {
        private final Row[] rows = new Row[MOST_TURNS];
        private final Row lengths = new Row();
        private final Patch patch = new Patch();
        private final Front ways = new Front();
        private final Writer writer = new Writer();

        Packer() {
            for (int i = 0; i < MOST_TURNS; i++) {
                rows[i] = new Row();
            }
        }

        void packInto(Piece piece, Block block, int depth, int limit) {
            survey(ways, block, depth);
            int k = ways.firstWithin(limit);
            writer.write(block, ways.pathAt(k), piece.bytes());
            piece.describe(block, ways.pathAt(k), ways.workAt(k));
        }

        void survey(Front front, Block block, int depth) {
            front.empty();
            rows[0].gather(block);
            explore(front, 0, depth, 0, bytesAround(block), 0);
        }

        /** The mark, how many rows, whether some are missing (and which ones), and the check. */
        private int bytesAround(Block block) {
            return 4 + (block.present() < block.size() ? layingLength(block.size(), 1) : 0);
        }

        /** Goes MOST_TURNS levels deep at most; path, bytes and work are those of the turns around this level. */
        private void explore(Front front, int level, int depth, int path, int bytes, int work) {
            if (level < 0 || level >= MOST_TURNS) {
                return;
            }
            Row row = rows[level];
            int m = row.size();
            row.arrange();
            front.offer(bytes + 1 + 8 * m, work + m, path * CODE_BASE + PLAIN);
            front.offer(bytes + row.narrowLength(), work + m, path * CODE_BASE + NARROW);
            if (m > 0) {
                patch.fit(row);
                front.offer(bytes + patch.size(), work + m + patch.outside(), path * CODE_BASE + PATCHED);
            }
            if (level >= depth || level + 1 >= MOST_TURNS) {
                return;
            }
            Row turned = rows[level + 1];
            for (int turn = STEPS; turn <= SHARES; turn++) {
                if (isWorthTurning(row, turn)) {
                    turned.becomeTurned(row, turn);
                    int runs = turn == RUNS ? turned.size() : 0;
                    explore(front, level + 1, depth, path * CODE_BASE + turn,
                            bytes + costOf(row, turned, turn), work + m + runs);
                }
            }
        }

        /** Runs of one row each, and a list of a rising row, leave the row as it is at more bytes and work. */
        private boolean isWorthTurning(Row row, int turn) {
            switch (turn) {
                case STEPS:
                    return row.size() > 1;
                case RUNS:
                    lengths.becomeLengths(row);
                    return lengths.size() < row.size();
                case LIST:
                    return row.size() > 1 && !row.isRising();
                default:
                    return row.divisor() > 1L;
            }
        }

        /** The bytes that a turn takes beside those of the row that it leaves. */
        private int costOf(Row row, Row turned, int turn) {
            switch (turn) {
                case STEPS:
                    return 1;
                case RUNS:
                    return 2 + lengths.narrowLength();
                case LIST:
                    return 2 + layingLength(row.size(), bitsOf(turned.size() - 1L));
                default:
                    return 1 + varintLength(row.divisor());
            }
        }
    }

    /** Writes a block's bytes by a code. */
    private static final class Writer {
        private final Row[] rows = new Row[MOST_TURNS];
        private final Row lengths = new Row();
        private final Patch patch = new Patch();

        Writer() {
            for (int i = 0; i < MOST_TURNS; i++) {
                rows[i] = new Row();
            }
        }

        /** A turn's first part stands ahead of the row that it leaves, its last part behind it. */
        void write(Block block, int path, Bytes out) {
            int last = Math.min(pathLength(path), MOST_TURNS) - 1;
            putFrame(out, block);
            rows[0].gather(block);
            for (int level = 0; level < last; level++) {
                rows[level].arrange();
                rows[level + 1].becomeTurned(rows[level], turnAt(path, level));
                putHead(out, rows[level], rows[level + 1], turnAt(path, level));
            }
            rows[last].arrange();
            putInnermost(out, rows[last], turnAt(path, last));
            for (int level = last - 1; level >= 0; level--) {
                if (turnAt(path, level) == RUNS) {
                    lengths.becomeLengths(rows[level]);
                    putNarrow(out, lengths);
                } else if (turnAt(path, level) == LIST) {
                    putRanks(out, rows[level]);
                }
            }
            out.put(out.checkOf(out.size()));
        }

        private void putFrame(Bytes out, Block block) {
            boolean gapped = block.present() < block.size();
            out.cutTo(0);
            out.put(MARK);
            out.put(block.size());
            out.put(gapped ? 1 : 0);
            if (gapped) {
                int first = out.reserve(layingLength(block.size(), 1));
                for (int i = 0; i < block.size(); i++) {
                    out.putBits(first + i, 1, block.isGap(i) ? 1L : 0L);
                }
            }
        }

        private void putHead(Bytes out, Row row, Row turned, int turn) {
            out.put(turn);
            if (turn == RUNS || turn == LIST) {
                out.put(turned.size());
            } else if (turn == SHARES) {
                out.putVarint(row.divisor());
            }
        }

        private void putInnermost(Bytes out, Row row, int turn) {
            if (turn == NARROW) {
                putNarrow(out, row);
            } else if (turn == PATCHED) {
                patch.fit(row);
                putPatched(out, row);
            } else {
                putPlain(out, row);
            }
        }

        private void putPlain(Bytes out, Row row) {
            out.put(PLAIN);
            for (int i = 0; i < row.size(); i++) {
                out.putLong(row.valueAt(i));
            }
        }

        private void putNarrow(Bytes out, Row row) {
            long least = row.least();
            int width = row.width(least);
            out.put(NARROW);
            out.putVarint(unsignedOf(least));
            out.put(width);
            int first = out.reserve(layingLength(row.size(), width));
            for (int i = 0; i < row.size(); i++) {
                out.putBits(first + i * width, width, row.valueAt(i) - least);
            }
        }

        private void putPatched(Bytes out, Row row) {
            out.put(PATCHED);
            out.putVarint(unsignedOf(patch.base()));
            out.put(patch.width());
            out.put(patch.outside());
            for (int i = 0; i < row.size(); i++) {
                if (!patch.covers(row.valueAt(i))) {
                    out.put(i);
                    out.putVarint(unsignedOf(row.valueAt(i)));
                }
            }
            int first = out.reserve(layingLength(row.size(), patch.width()));
            for (int i = 0; i < row.size(); i++) {
                if (patch.covers(row.valueAt(i))) {
                    out.putBits(first + i * patch.width(), patch.width(), row.valueAt(i) - patch.base());
                }
            }
        }

        /** The row must be arranged. */
        private void putRanks(Bytes out, Row row) {
            int width = bitsOf(row.unlike() - 1L);
            int first = out.reserve(layingLength(row.size(), width));
            for (int i = 0; i < row.size(); i++) {
                out.putBits(first + i * width, width, row.rankOf(row.valueAt(i)));
            }
        }
    }

    /** Reads a piece's bytes from the first to the last, up to the first fault. */
    private static final class Reader {
        private final Row row = new Row();
        private final Row spare = new Row();
        private final Row lengths = new Row();
        private final int[] turns = new int[MOST_TURNS];
        private final int[] sizes = new int[MOST_TURNS];
        private final long[] divisors = new long[MOST_TURNS];
        private final int[] places = new int[PIECE_ROWS];
        private final long[] patches = new long[PIECE_ROWS];
        private int innermost = 0;
        private int next = 0;
        private int path = 0;
        private int work = 0;
        private int kind = 0;
        private int place = NONE;

        int kindOfFault() {
            return kind;
        }

        int placeOfFault() {
            return place;
        }

        int pathRead() {
            return path;
        }

        int workRead() {
            return work;
        }

        /** Whether there was no fault; with one, what the block has is of no use. */
        boolean read(Bytes source, Block block) {
            next = 0;
            path = 0;
            work = 0;
            kind = 0;
            place = NONE;
            readFrame(source, block);
            readHeads(source, block.present());
            readInnermost(source);
            for (int level = innermost - 1; level >= 0 && kind == 0; level--) {
                undo(source, level);
            }
            readCheck(source);
            if (kind == 0) {
                fill(block);
            }
            return kind == 0;
        }

        private void fail(int newKind, int where) {
            if (kind == 0) {
                kind = newKind;
                place = where;
            }
        }

        /** The next byte; a fault at it, if it is not from least up to most. */
        private int byteWithin(Bytes source, int least, int most, int newKind) {
            int b = source.byteAt(next);
            if (kind != 0) {
                return 0;
            }
            if (b == NONE) {
                fail(LACKING, source.size());
                return 0;
            }
            if (b < least || b > most) {
                fail(newKind, next);
                return 0;
            }
            next++;
            return b;
        }

        /** Ten bytes have 70 bits: of the tenth one only the lowest bit is left to a long. */
        private long readVarint(Bytes source) {
            long unsigned = 0L;
            for (int i = 0; i < 10 && kind == 0; i++) {
                int b = source.byteAt(next + i);
                if (b == NONE) {
                    fail(LACKING, source.size());
                } else if (i == 9 && b > 1) {
                    fail(IMPOSSIBLE, next);
                } else {
                    unsigned |= (b & 127L) << (7 * i);
                    if (b < 128) {
                        next += i + 1;
                        return unsigned;
                    }
                }
            }
            return 0L;
        }

        /** The place of the first bit of a laying that is there as a whole. */
        private int passLaying(Bytes source, int numbers, int width) {
            int first = next * 8;
            int bytes = layingLength(numbers, width);
            if (kind == 0 && next + bytes > source.size()) {
                fail(LACKING, source.size());
            }
            if (kind == 0) {
                next += bytes;
            }
            return first;
        }

        private void readFrame(Bytes source, Block block) {
            block.empty();
            byteWithin(source, MARK, MARK, IMPOSSIBLE);
            int rows = byteWithin(source, 1, PIECE_ROWS, IMPOSSIBLE);
            int gapped = byteWithin(source, 0, 1, IMPOSSIBLE);
            int first = passLaying(source, gapped == 1 ? rows : 0, 1);
            for (int i = 0; i < rows && kind == 0; i++) {
                block.add(gapped == 1 && source.bitsAt(first + i, 1) == 1L, 0L);
            }
        }

        /** What stands ahead of the innermost row, from the outside on. */
        private void readHeads(Bytes source, int values) {
            int m = values;
            innermost = 0;
            for (int level = 0; level <= MOST_TURNS && kind == 0; level++) {
                int turn = byteWithin(source, 0, level < MOST_TURNS ? SHARES : NONE, WRONG_TURN);
                if (kind != 0 || level >= MOST_TURNS) {
                    return;
                }
                innermost = level;
                path = path * CODE_BASE + turn;
                work += m;
                turns[level] = turn;
                sizes[level] = m;
                if (turn < STEPS) {
                    return;
                }
                m = readHead(source, level);
            }
        }

        /** How many values the row has that the turn leaves. */
        private int readHead(Bytes source, int level) {
            int m = sizes[level];
            int turn = turns[level];
            if (turn == RUNS || turn == LIST) {
                int k = byteWithin(source, 1, m, IMPOSSIBLE);
                work += turn == RUNS ? k : 0;
                return k;
            }
            if (turn == SHARES) {
                int where = next;
                divisors[level] = readVarint(source);
                if (divisors[level] == 0L || divisors[level] == 1L) {
                    fail(IMPOSSIBLE, where);
                }
            }
            return m;
        }

        private void readInnermost(Bytes source) {
            int m = sizes[innermost];
            row.empty();
            if (kind != 0) {
                return;
            }
            if (turns[innermost] == NARROW) {
                readNarrow(source, row, m);
            } else if (turns[innermost] == PATCHED) {
                readPatched(source, m);
            } else {
                readPlain(source, m);
            }
        }

        private void readPlain(Bytes source, int m) {
            int first = passLaying(source, m, 64) / 8;
            for (int i = 0; i < m && kind == 0; i++) {
                long v = 0L;
                for (int k = 0; k < 8; k++) {
                    v = v << 8 | source.byteAt(first + 8 * i + k);
                }
                row.add(v);
            }
        }

        private void readNarrow(Bytes source, Row into, int m) {
            long least = signedOf(readVarint(source));
            int width = byteWithin(source, 0, 64, IMPOSSIBLE);
            int first = passLaying(source, m, width);
            into.empty();
            for (int i = 0; i < m && kind == 0; i++) {
                into.add(least + source.bitsAt(first + i * width, width));
            }
        }

        private void readPatched(Bytes source, int m) {
            long base = signedOf(readVarint(source));
            int width = byteWithin(source, 0, 64, IMPOSSIBLE);
            int k = byteWithin(source, 0, m, IMPOSSIBLE);
            int ahead = NONE;
            for (int i = 0; i < k && i < PIECE_ROWS && kind == 0; i++) {
                ahead = byteWithin(source, ahead + 1, m - 1, IMPOSSIBLE);
                places[i] = ahead;
                patches[i] = signedOf(readVarint(source));
            }
            int first = passLaying(source, m, width);
            for (int i = 0; i < m && kind == 0; i++) {
                row.add(base + source.bitsAt(first + i * width, width));
            }
            for (int i = 0; i < k && i < PIECE_ROWS && kind == 0; i++) {
                row.put(places[i], patches[i]);
            }
            work += k;
        }

        /** Turns the row back, from what a level left to what it had. */
        private void undo(Bytes source, int level) {
            if (level < 0 || level + 1 >= MOST_TURNS) {
                return;
            }
            int m = sizes[level];
            int where = next;
            switch (turns[level]) {
                case STEPS:
                    addSteps();
                    break;
                case RUNS:
                    byteWithin(source, NARROW, NARROW, WRONG_TURN);
                    readNarrow(source, lengths, sizes[level + 1]);
                    spreadRuns(m, where);
                    break;
                case LIST:
                    lookUp(source, m);
                    break;
                default:
                    multiply(divisors[level]);
                    break;
            }
        }

        private void addSteps() {
            for (int i = 1; i < row.size(); i++) {
                row.put(i, row.valueAt(i - 1) + row.valueAt(i));
            }
        }

        private void multiply(long divisor) {
            for (int i = 0; i < row.size(); i++) {
                row.put(i, row.valueAt(i) * divisor);
            }
        }

        private void spreadRuns(int m, int where) {
            int left = m;
            spare.empty();
            for (int i = 0; i < row.size() && kind == 0; i++) {
                long length = lengths.valueAt(i);
                if (length < 1L || length > left) {
                    fail(IMPOSSIBLE, where);
                    return;
                }
                left -= (int) length;
                for (int k = 0; k < length && k < PIECE_ROWS; k++) {
                    spare.add(row.valueAt(i));
                }
            }
            if (left != 0) {
                fail(IMPOSSIBLE, where);
            }
            row.become(spare);
        }

        private void lookUp(Bytes source, int m) {
            int k = row.size();
            int where = next;
            int width = bitsOf(k - 1L);
            int first = passLaying(source, m, width);
            spare.empty();
            for (int i = 0; i < m && kind == 0; i++) {
                int number = (int) source.bitsAt(first + i * width, width);
                if (number >= k) {
                    fail(IMPOSSIBLE, where);
                }
                spare.add(row.valueAt(number));
            }
            row.become(spare);
        }

        private void readCheck(Bytes source) {
            int due = source.checkOf(next);
            byteWithin(source, due, due, WRONG_CHECK);
            if (next < source.size()) {
                fail(WRONG_CHECK, next);
            }
        }

        private void fill(Block block) {
            int taken = 0;
            for (int i = 0; i < block.size(); i++) {
                if (!block.isGap(i)) {
                    block.change(i, row.valueAt(taken));
                    taken++;
                }
            }
        }
    }

    /** A packed piece: its bytes, what they tell without being read, and its changes. */
    private static final class Piece {
        private final Bytes bytes = new Bytes();
        private final int[] changedRows = new int[MOST_CHANGES];
        private final long[] changedValues = new long[MOST_CHANGES];
        private int changes = 0;
        private int rows = 0;
        private int path = 0;
        private int work = 0;
        private int present = 0;
        private long least = 0L;
        private long greatest = 0L;

        Bytes bytes() {
            return bytes;
        }

        int size() {
            return bytes.size();
        }

        int byteAt(int i) {
            return bytes.byteAt(i);
        }

        int changeTotal() {
            return changes;
        }

        int pathWritten() {
            return path;
        }

        int workToRead() {
            return work;
        }

        int gapTotal() {
            return rows - present;
        }

        int present() {
            return present;
        }

        void copyTo(Bytes out) {
            out.become(bytes);
        }

        void describe(Block block, int newPath, int newWork) {
            path = newPath;
            work = newWork;
            changes = 0;
            measure(block);
        }

        void measure(Block block) {
            rows = block.size();
            present = 0;
            for (int i = 0; i < rows; i++) {
                if (!block.isGap(i)) {
                    long v = block.valueAt(i);
                    least = present == 0 ? v : Math.min(least, v);
                    greatest = present == 0 ? v : Math.max(greatest, v);
                    present++;
                }
            }
        }

        /** Whether the change has room; a row that was changed before keeps its place. */
        boolean note(int row, long v) {
            int k = 0;
            while (k < changes && k < MOST_CHANGES && changedRows[k] != row) {
                k++;
            }
            if (k < 0 || k >= MOST_CHANGES) {
                return false;
            }
            changedRows[k] = row;
            changedValues[k] = v;
            changes = Math.max(changes, k + 1);
            return true;
        }

        void changeIn(Block block) {
            for (int k = 0; k < changes && k < MOST_CHANGES; k++) {
                block.change(changedRows[k], changedValues[k]);
            }
        }

        boolean isApart(long from, long upTo) {
            return present == 0 || greatest < from || least > upTo;
        }

        boolean isWithin(long from, long upTo) {
            return least >= from && greatest <= upTo;
        }
    }

    /** A column: packed pieces, and the rows of an open one behind them. */
    private static final class Column {
        private final Packer packer;
        private final Reader reader;
        private final Block scratch;
        private final Block open = new Block();
        private final Piece[] pieces = new Piece[MOST_PIECES];
        private boolean opened = false;
        private int rows = 0;
        private int depth = MOST_DEPTH;
        private int limit = MOST_LIMIT;

        Column(Packer packer, Reader reader, Block scratch) {
            this.packer = packer;
            this.reader = reader;
            this.scratch = scratch;
            for (int p = 0; p < MOST_PIECES; p++) {
                pieces[p] = new Piece();
            }
        }

        int size() {
            return rows;
        }

        boolean holds(int row) {
            return row >= 0 && row < rows;
        }

        int pieceTotal() {
            return (rows + PIECE_ROWS - 1) / PIECE_ROWS;
        }

        boolean holdsPiece(int p) {
            return p >= 0 && p < pieceTotal();
        }

        boolean isOpen(int p) {
            return opened && p == pieceTotal() - 1;
        }

        int rowsOf(int p) {
            return Math.min(PIECE_ROWS, rows - p * PIECE_ROWS);
        }

        Piece pieceAt(int p) {
            return pieces[Math.max(0, Math.min(p, MOST_PIECES - 1))];
        }

        void choose(int newDepth, int newLimit) {
            depth = newDepth;
            limit = newLimit;
        }

        int empty() {
            int before = rows;
            rows = 0;
            opened = false;
            open.empty();
            return before;
        }

        /** The rows of a piece as they are; those of a packed one only until the next is asked for. */
        Block blockOf(int p) {
            if (isOpen(p)) {
                return open;
            }
            Piece piece = pieceAt(p);
            reader.read(piece.bytes(), scratch);
            piece.changeIn(scratch);
            return scratch;
        }

        int append(boolean gap, long v) {
            if (rows >= MOST_ROWS) {
                return NONE;
            }
            int p = rows / PIECE_ROWS;
            if (rows % PIECE_ROWS == 0) {
                open.empty();
            } else if (!opened) {
                open.become(blockOf(p));
            }
            opened = true;
            open.add(gap, v);
            rows++;
            if (open.size() == PIECE_ROWS) {
                packer.packInto(pieceAt(p), open, depth, limit);
                opened = false;
            }
            return rows - 1;
        }

        int change(int row, long v) {
            int p = row / PIECE_ROWS;
            int place = row % PIECE_ROWS;
            Block block = blockOf(p);
            block.change(place, v);
            if (isOpen(p)) {
                return 0;
            }
            Piece piece = pieceAt(p);
            if (piece.note(place, v)) {
                piece.measure(block);
            } else {
                packer.packInto(piece, block, depth, limit);
            }
            return piece.changeTotal();
        }

        void packAll() {
            for (int p = 0; p < pieceTotal(); p++) {
                packer.packInto(pieceAt(p), blockOf(p), depth, limit);
            }
            opened = false;
        }

        /** The column's rows must be whole pieces. */
        void keep(Bytes read, Block block, int path, int work) {
            Piece piece = pieceAt(rows / PIECE_ROWS);
            piece.bytes().become(read);
            piece.describe(block, path, work);
            rows += block.size();
            opened = false;
        }

        int gapTotal() {
            int total = 0;
            for (int p = 0; p < pieceTotal(); p++) {
                total += isOpen(p) ? open.size() - open.present() : pieceAt(p).gapTotal();
            }
            return total;
        }

        int byteTotal() {
            int total = 0;
            for (int p = 0; p < pieceTotal(); p++) {
                total += isOpen(p) ? 0 : pieceAt(p).size();
            }
            return total;
        }

        void survey(int p, Front front) {
            packer.survey(front, blockOf(p), depth);
        }

        void ask(long least, long greatest, boolean onlyHowMany, Tally tally) {
            tally.empty();
            for (int p = 0; p < pieceTotal(); p++) {
                Piece piece = pieceAt(p);
                if (isOpen(p)) {
                    open.tellTo(tally, least, greatest);
                } else if (onlyHowMany && piece.isWithin(least, greatest)) {
                    tally.add(piece.present(), 0L);
                } else if (!piece.isApart(least, greatest)) {
                    blockOf(p).tellTo(tally, least, greatest);
                    tally.noteUnpacked();
                }
            }
        }
    }
}
