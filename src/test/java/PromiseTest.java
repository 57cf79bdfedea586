/** Each promise by itself: ordinary calls, the edges that the document names, and calls that are refused. */
public final class PromiseTest {
    private static final int NONE = -1;
    private static int wrong = 0;
    private static int promise = 0;

    public static void main(String[] args) {
        newObject();
        feed();
        end();
        way();
        value();
        missing();
        sow();
        set();
        changesEndWithTheFifth();
        pack();
        packThenGoOn();
        clear();
        count();
        hasAndGet();
        piece();
        at();
        writtenForms();
        chosenWays();
        code();
        front();
        among();
        sum();
        looked();
        take();
        load();
        loadKeepsOrUnpacks();
        readForms();
        faults();
        faultAnswers();
        farNumbers();
        System.out.println(wrong == 0 ? "all answers are as due" : wrong + " answers are wrong");
        System.exit(wrong == 0 ? 0 : 1);
    }

    private static void due(String call, long got, long want) {
        if (got != want) {
            wrong++;
            System.out.println("promise " + promise + ": " + call + " answered " + got + ", due is " + want);
        }
    }

    private static void yes(String call, boolean got) {
        due(call, got ? 1 : 0, 1);
    }

    private static void no(String call, boolean got) {
        due(call, got ? 1 : 0, 0);
    }

    private static int[] bytesOf(String hex) {
        String plain = hex.replace(" ", "");
        int[] bytes = new int[plain.length() / 2];
        for (int i = 0; i < bytes.length; i++) {
            bytes[i] = Integer.parseInt(plain.substring(2 * i, 2 * i + 2), 16);
        }
        return bytes;
    }

    private static String checked(String hex) {
        int h = 7;
        for (int b : bytesOf(hex)) {
            h = (31 * h + b) % 256;
        }
        return hex + " " + String.format("%02X", h);
    }

    private static void lay(PackedColumns x, String hex) {
        int[] bytes = bytesOf(hex);
        x.end(0);
        for (int i = 0; i < bytes.length; i += 20) {
            int[] n = new int[5];
            for (int k = 0; k < 20; k++) {
                n[k / 4] = n[k / 4] << 8 | (i + k < bytes.length ? bytes[i + k] : 0);
            }
            x.feed(n[0], n[1], n[2], n[3], n[4]);
        }
        yes("end(" + bytes.length + ")", x.end(bytes.length));
    }

    private static int loaded(PackedColumns x, int column, String hex) {
        lay(x, hex);
        return x.load(column);
    }

    private static PackedColumns with(long... values) {
        PackedColumns x = new PackedColumns();
        add(x, values);
        return x;
    }

    private static void add(PackedColumns x, long... values) {
        for (long v : values) {
            x.value(0, v);
        }
    }

    private static void repeat(PackedColumns x, int times, long v) {
        for (int i = 0; i < times; i++) {
            x.value(0, v);
        }
    }

    /** Piece p of column 0 has these bytes and a check byte behind them. */
    private static void written(String what, PackedColumns x, int p, String hex) {
        int[] bytes = bytesOf(checked(hex));
        due(what + ": bytes", x.piece(0, p, 1), bytes.length);
        for (int i = 0; i < bytes.length; i++) {
            due(what + ": at(0, " + p + ", " + i + ")", x.at(0, p, i), bytes[i]);
        }
        due(what + ": at behind the last", x.at(0, p, bytes.length), NONE);
    }

    private static void coded(String what, PackedColumns x, int p, int... code) {
        for (int i = 0; i < code.length; i++) {
            due(what + ": code(0, " + p + ", " + i + ")", x.code(0, p, i), code[i]);
        }
        due(what + ": code behind the last", x.code(0, p, code.length), NONE);
    }

    private static void newObject() {
        promise = 1;
        PackedColumns x = new PackedColumns();
        due("NONE", PackedColumns.NONE, -1);
        for (int c = 0; c < 4; c++) {
            for (int what = 0; what < 4; what++) {
                due("count(" + c + ", " + what + ")", x.count(c, what), 0);
            }
            due("has", x.has(c, 0), NONE);
            due("piece", x.piece(c, 0, 0), NONE);
            due("front", x.front(c, 0), NONE);
            due("among", x.among(c, Long.MIN_VALUE, Long.MAX_VALUE), 0);
            due("sum", x.sum(c, Long.MIN_VALUE, Long.MAX_VALUE), 0);
            due("pack", x.pack(c), 0);
            due("clear", x.clear(c), 0);
        }
        yes("end(0)", x.end(0));
        no("end(1)", x.end(1));
        PackedColumns other = new PackedColumns();
        other.value(0, 5L);
        due("another object's rows", x.count(0, 0), 0);
    }

    private static void feed() {
        promise = 2;
        PackedColumns x = new PackedColumns();
        for (int i = 1; i <= 15; i++) {
            due("feed", x.feed(i, i, i, i, i), 20 * i);
        }
        due("feed beyond 300", x.feed(1, 2, 3, 4, 5), NONE);
        no("end(301)", x.end(301));
        yes("end(281)", x.end(281));
        due("feed to 301", x.feed(1, 2, 3, 4, 5), NONE);
        no("end(282)", x.end(282));
        yes("end(280)", x.end(280));
        due("feed to 300", x.feed(1, 2, 3, 4, 5), 300);
        x.end(0);
        int[] b = bytesOf(checked("C1 01 00 00 01 02 03 04 05 06 07 F8"));
        x.feed(0xC1010000, 0x01020304, 0x050607F8, b[12] << 24, 0);
        x.end(13);
        due("load of what was fed", x.load(0), 1);
        due("get", x.get(0, 0), 0x01020304050607F8L);
        due("feed after load", x.feed(0, 0, 0, 0, 0), 20);
    }

    private static void end() {
        promise = 3;
        PackedColumns x = new PackedColumns();
        x.feed(0xC1020001, 0x0A002A00, 0, 0, 0);
        no("end(-1)", x.end(-1));
        no("end(least)", x.end(Integer.MIN_VALUE));
        no("end(21)", x.end(21));
        yes("end(20)", x.end(20));
        yes("end(6)", x.end(6));
        no("end(7)", x.end(7));
        due("load of six bytes", x.load(0), NONE);
        due("fault", x.fault(0), 1);
        due("its place", x.fault(1), 6);
        yes("end(0)", x.end(0));
    }

    private static void way() {
        promise = 4;
        PackedColumns x = new PackedColumns();
        no("column -1", x.way(-1, 1, 100));
        no("column 4", x.way(4, 1, 100));
        no("depth -1", x.way(0, -1, 100));
        no("depth 3", x.way(0, 3, 100));
        no("limit 31", x.way(0, 0, 31));
        no("limit 1001", x.way(0, 0, 1001));
        x.sow(0, 32, 1, 0L, 3L, 1, 0L);
        coded("as at first", x, 0, 3, 2);
        yes("depth 0, limit 1000", x.way(0, 0, 1000));
        coded("a piece packed before", x, 0, 3, 2);
        x.sow(0, 32, 1, 0L, 3L, 1, 0L);
        coded("a piece packed at depth 0", x, 1, 1);
        x.sow(1, 32, 1, 0L, 3L, 1, 0L);
        due("another column", x.code(1, 0, 0), 3);
        yes("depth 2, limit 64", x.way(0, 2, 64));
        x.sow(0, 32, 1, 0L, 3L, 1, 0L);
        coded("at limit 64", x, 2, 3, 1);
        due("its work", x.piece(0, 2, 2), 64);
        no("refused", x.way(0, 2, 0));
        yes("limit 32", x.way(0, 2, 32));
        x.clear(0);
        x.sow(0, 32, 1, 0L, 3L, 1, 0L);
        coded("at limit 32, behind clear", x, 0, 1);
        yes("limit 65", x.way(0, 1, 65));
        x.pack(0);
        coded("packed anew", x, 0, 3, 2);
        for (int c = 0; c < 4; c++) {
            yes("each column", x.way(c, 2, 1000));
        }
    }

    private static void value() {
        promise = 5;
        PackedColumns x = new PackedColumns();
        due("column -1", x.value(-1, 1L), NONE);
        due("column 4", x.value(4, 1L), NONE);
        for (int i = 0; i < 160; i++) {
            due("value", x.value(3, i * 1000003L), i);
            due("open", x.piece(3, i / 32, 4), i % 32 == 31 ? 0 : 1);
        }
        due("the 161st", x.value(3, 7L), NONE);
        due("rows", x.count(3, 0), 160);
        due("get(3, 159)", x.get(3, 159), 159 * 1000003L);
        due("another column", x.value(2, Long.MIN_VALUE), 0);
        due("get(2, 0)", x.get(2, 0), Long.MIN_VALUE);
    }

    private static void missing() {
        promise = 6;
        PackedColumns x = new PackedColumns();
        due("column -1", x.missing(-1), NONE);
        due("column 4", x.missing(4), NONE);
        for (int i = 0; i < 160; i++) {
            due("missing", x.missing(0), i);
        }
        due("the 161st", x.missing(0), NONE);
        due("value as the 161st", x.value(0, 1L), NONE);
        due("missing rows", x.count(0, 2), 160);
        due("has", x.has(0, 77), 0);
        written("32 missing ones", x, 4, "C1 20 01 FF FF FF FF 00");
        due("work", x.piece(0, 4, 2), 0);
    }

    private static void sow() {
        promise = 7;
        PackedColumns x = new PackedColumns();
        due("column -1", x.sow(-1, 1, 0, 0L, 0L, 1, 0L), NONE);
        due("column 4", x.sow(4, 1, 0, 0L, 0L, 1, 0L), NONE);
        due("n 0", x.sow(0, 0, 0, 0L, 0L, 1, 0L), NONE);
        due("n 65", x.sow(0, 65, 0, 0L, 0L, 1, 0L), NONE);
        due("spread 0", x.sow(0, 1, 0, 0L, 0L, 0, 0L), NONE);
        due("spread -1", x.sow(0, 1, 0, 0L, 0L, -1, 0L), NONE);
        due("spread 1000001", x.sow(0, 1, 0, 0L, 0L, 1000001, 0L), NONE);
        due("nothing done", x.count(0, 0), 0);
        due("one", x.sow(0, 1, 0, 5L, 9L, 1000000, 2L), 1);
        due("g 12345", x.get(0, 0), 5L + 48 * 2);
        due("g below 0", x.sow(0, 1, 2, 0L, 0L, 1000000, 1L), 2);
        due("8621261 % 1000000", x.get(0, 1), 621261L);
        due("two", x.sow(0, 2, 1, 100L, 1000000000L, 7, -1L), 4);
        due("its first", x.get(0, 2), 100L - 4310654 % 7);
        due("its second", x.get(0, 3), 1000000100L - ((1103515245 * 1103527590 + 12345) >>> 8) % 7);
        due("from the greatest long", x.sow(1, 3, 9, Long.MAX_VALUE, 1L, 1, 5L), 3);
        due("it wraps", x.get(1, 2), Long.MIN_VALUE + 1);
        due("step wraps", x.sow(1, 4, 9, 0L, Long.MAX_VALUE, 1, 5L), 7);
        due("3 times the greatest", x.get(1, 6), 3 * Long.MAX_VALUE);
        due("64", x.sow(0, 64, 3, 0L, 1L, 1, 0L), 68);
        due("64 more", x.sow(0, 64, 3, 0L, 1L, 1, 0L), 132);
        due("to 161", x.sow(0, 29, 3, 0L, 1L, 1, 0L), NONE);
        due("nothing done", x.count(0, 0), 132);
        due("to 160", x.sow(0, 28, 3, 0L, 1L, 1, 0L), 160);
        due("the last", x.get(0, 159), 27L);
        due("one more", x.sow(0, 1, 3, 0L, 1L, 1, 0L), NONE);
        due("pieces packed", x.piece(0, 4, 4), 0);
    }

    private static void set() {
        promise = 8;
        PackedColumns x = new PackedColumns();
        due("no row", x.set(0, 0, 1L), NONE);
        x.value(0, 1L);
        x.missing(0);
        due("column -1", x.set(-1, 0, 1L), NONE);
        due("column 4", x.set(4, 0, 1L), NONE);
        due("row -1", x.set(0, -1, 1L), NONE);
        due("row 2", x.set(0, 2, 1L), NONE);
        due("of an open piece", x.set(0, 0, 8L), 0);
        due("a missing one of it", x.set(0, 1, 9L), 0);
        due("get", x.get(0, 0), 8L);
        due("get", x.get(0, 1), 9L);
        due("missing ones", x.count(0, 2), 0);
        x.missing(0);
        x.sow(0, 29, 1, 0L, 1L, 1, 0L);
        int bytes = x.piece(0, 0, 1);
        due("of a packed piece", x.set(0, 31, -7L), 1);
        due("the same row", x.set(0, 31, -8L), 1);
        due("a missing one", x.set(0, 2, 4L), 2);
        due("to what it is", x.set(0, 0, 8L), 3);
        due("changes", x.piece(0, 0, 3), 3);
        due("get 31", x.get(0, 31), -8L);
        due("get 2", x.get(0, 2), 4L);
        due("has 2", x.has(0, 2), 1);
        due("missing ones", x.count(0, 2), 0);
        due("bytes are as they were", x.piece(0, 0, 1), bytes);
        due("the row behind the last", x.set(0, 32, 1L), NONE);
    }

    private static void changesEndWithTheFifth() {
        promise = 8;
        PackedColumns x = new PackedColumns();
        repeat(x, 32, 5L);
        x.way(0, 0, 1000);
        for (int i = 0; i < 4; i++) {
            due("change", x.set(0, 8 * i, 6L), i + 1);
        }
        written("until the fifth", x, 0, "C1 20 00 01 0A 00");
        due("a changed row again", x.set(0, 24, 7L), 4);
        due("the fifth", x.set(0, 1, 8L), 0);
        written("packed anew", x, 0, "C1 20 00 01 0A 02 0D 00 01 00 01 00 02 00");
        due("changes", x.piece(0, 0, 3), 0);
        due("get 24", x.get(0, 24), 7L);
        due("get 1", x.get(0, 1), 8L);
        due("then from one on", x.set(0, 1, 5L), 1);
    }

    private static void pack() {
        promise = 9;
        PackedColumns x = new PackedColumns();
        due("column -1", x.pack(-1), NONE);
        due("column 4", x.pack(4), NONE);
        due("empty", x.pack(0), 0);
        add(x, 5L, 6L, 7L);
        due("three rows", x.pack(0), 8);
        written("three rows", x, 0, "C1 03 00 01 0A 02 24");
        due("it is closed", x.piece(0, 0, 4), 0);
        due("rows", x.count(0, 0), 3);
        due("a change of it", x.set(0, 1, 9L), 1);
        due("packed anew", x.pack(0), 9);
        written("with its change", x, 0, "C1 03 00 01 0A 03 A0 00");
        due("changes", x.piece(0, 0, 3), 0);
        x.clear(0);
        repeat(x, 40, 5L);
        due("two pieces", x.pack(0), 14);
        x.set(0, 3, 6L);
        x.set(0, 39, 7L);
        x.way(0, 0, 32);
        due("with the way as it is then", x.pack(0), 11 + 9);
        due("their bytes", x.count(0, 3), 11 + 9);
    }

    private static void packThenGoOn() {
        promise = 9;
        PackedColumns x = new PackedColumns();
        add(x, 5L, 6L, 7L);
        x.missing(0);
        x.pack(0);
        x.set(0, 0, 1L);
        x.set(0, 3, 2L);
        due("value", x.value(0, 9L), 4);
        due("open again", x.piece(0, 0, 4), 1);
        due("one piece", x.count(0, 1), 1);
        due("its changes", x.piece(0, 0, 3), 0);
        due("its bytes", x.piece(0, 0, 1), 0);
        long[] rows = {1L, 6L, 7L, 2L, 9L};
        for (int i = 0; i < rows.length; i++) {
            due("get", x.get(0, i), rows[i]);
        }
        x.pack(0);
        due("missing", x.missing(0), 5);
        due("open again", x.piece(0, 0, 4), 1);
        x.pack(0);
        due("sow", x.sow(0, 27, 1, 0L, 0L, 1, 0L), 33);
        due("full", x.piece(0, 0, 4), 0);
        x.clear(0);
        repeat(x, 32, 4L);
        x.pack(0);
        x.value(0, 5L);
        due("a new piece", x.count(0, 1), 2);
        due("the full one stays packed", x.piece(0, 0, 4), 0);
        due("the new one is open", x.piece(0, 1, 4), 1);
    }

    private static void clear() {
        promise = 10;
        PackedColumns x = with(1L, 2L, 3L);
        x.value(1, 4L);
        due("column -1", x.clear(-1), NONE);
        due("column 4", x.clear(4), NONE);
        due("three rows", x.clear(0), 3);
        due("again", x.clear(0), 0);
        due("rows", x.count(0, 0), 0);
        due("pieces", x.count(0, 1), 0);
        due("another column", x.count(1, 0), 1);
        due("get", x.get(0, 0), 0L);
        due("value", x.value(0, 7L), 0);
        due("get", x.get(0, 0), 7L);
        x.sow(0, 64, 0, 0L, 1L, 1, 0L);
        x.set(0, 1, 99L);
        due("65 rows", x.clear(0), 65);
        x.sow(0, 32, 0, 0L, 1L, 1, 0L);
        due("no change is left", x.get(0, 1), 1L);
        due("changes", x.piece(0, 0, 3), 0);
        x.clear(0);
        x.value(0, 1L);
        x.pack(0);
        x.clear(0);
        due("behind a packed one", x.value(0, 3L), 0);
        due("get", x.get(0, 0), 3L);
    }

    private static void count() {
        promise = 11;
        PackedColumns x = new PackedColumns();
        due("column -1", x.count(-1, 0), NONE);
        due("column 4", x.count(4, 0), NONE);
        due("what -1", x.count(0, -1), NONE);
        due("what 4", x.count(0, 4), NONE);
        repeat(x, 32, 5L);
        due("pieces", x.count(0, 1), 1);
        x.value(0, 5L);
        x.missing(0);
        due("rows", x.count(0, 0), 34);
        due("pieces", x.count(0, 1), 2);
        due("missing ones", x.count(0, 2), 1);
        due("bytes of packed ones", x.count(0, 3), 7);
        x.pack(0);
        due("bytes of both", x.count(0, 3), 7 + 8);
        x.set(0, 33, 1L);
        due("missing ones", x.count(0, 2), 0);
        x.missing(0);
        due("missing ones", x.count(0, 2), 1);
        due("bytes of packed ones", x.count(0, 3), 7);
    }

    private static void hasAndGet() {
        PackedColumns x = new PackedColumns();
        for (int i = 0; i < 40; i++) {
            if (i % 3 == 1) {
                x.missing(0);
            } else {
                x.value(0, 10L * i - 100);
            }
        }
        for (int i = 0; i < 40; i++) {
            promise = 12;
            due("has(0, " + i + ")", x.has(0, i), i % 3 == 1 ? 0 : 1);
            promise = 13;
            due("get(0, " + i + ")", x.get(0, i), i % 3 == 1 ? 0L : 10L * i - 100);
        }
        promise = 12;
        due("column -1", x.has(-1, 0), NONE);
        due("column 4", x.has(4, 0), NONE);
        due("row -1", x.has(0, -1), NONE);
        due("row 40", x.has(0, 40), NONE);
        due("an empty column", x.has(1, 0), NONE);
        promise = 13;
        due("column -1", x.get(-1, 0), 0L);
        due("column 4", x.get(4, 0), 0L);
        due("row -1", x.get(0, -1), 0L);
        due("row 40", x.get(0, 40), 0L);
        due("the greatest int", x.get(0, Integer.MAX_VALUE), 0L);
        x.set(0, 2, Long.MIN_VALUE);
        due("a changed one", x.get(0, 2), Long.MIN_VALUE);
    }

    private static void piece() {
        promise = 14;
        PackedColumns x = new PackedColumns();
        repeat(x, 33, 5L);
        int[] packed = {32, 7, 32, 0, 0};
        int[] open = {1, 0, NONE, 0, 1};
        for (int what = 0; what < 5; what++) {
            due("packed, " + what, x.piece(0, 0, what), packed[what]);
            due("open, " + what, x.piece(0, 1, what), open[what]);
        }
        due("what -1", x.piece(0, 0, -1), NONE);
        due("what 5", x.piece(0, 0, 5), NONE);
        due("column -1", x.piece(-1, 0, 0), NONE);
        due("column 4", x.piece(4, 0, 0), NONE);
        due("piece -1", x.piece(0, -1, 0), NONE);
        due("piece 2", x.piece(0, 2, 0), NONE);
        due("piece of an empty column", x.piece(1, 0, 0), NONE);
        x.set(0, 0, 6L);
        x.set(0, 1, 6L);
        due("changes", x.piece(0, 0, 3), 2);
        due("work is that of its bytes", x.piece(0, 0, 2), 32);
        x.set(0, 32, 6L);
        due("changes of an open one", x.piece(0, 1, 3), 0);
    }

    private static void at() {
        promise = 15;
        PackedColumns x = new PackedColumns();
        repeat(x, 33, 5L);
        due("at(0, 0, 0)", x.at(0, 0, 0), 193);
        due("at(0, 0, 1)", x.at(0, 0, 1), 32);
        due("at(0, 0, -1)", x.at(0, 0, -1), NONE);
        due("at(0, 0, 7)", x.at(0, 0, 7), NONE);
        due("an open one", x.at(0, 1, 0), NONE);
        due("piece 2", x.at(0, 2, 0), NONE);
        due("piece -1", x.at(0, -1, 0), NONE);
        due("column -1", x.at(-1, 0, 0), NONE);
        due("column 4", x.at(4, 0, 0), NONE);
        x.set(0, 0, 7L);
        written("a change is beside the bytes", x, 0, "C1 20 00 01 0A 00");
    }

    private static void writtenForms() {
        promise = 15;
        PackedColumns x = with(-1L);
        x.missing(0);
        x.value(0, 0L);
        x.pack(0);
        written("a missing one", x, 0, "C1 03 01 02 01 01 01 02");
        x = with(Long.MIN_VALUE, Long.MAX_VALUE);
        x.pack(0);
        written("steps that wrap", x, 0, "C1 02 00 03 02 FF FF FF FF FF FF FF FF FF 01 00 01 01 01");
        x.way(0, 0, 1000);
        x.pack(0);
        written("the ends of longs, plain", x, 0, "C1 02 00 00 80 00 00 00 00 00 00 00 7F FF FF FF FF FF FF FF");
        x = new PackedColumns();
        repeat(x, 31, 7L);
        x.value(0, 1000000L);
        written("patched", x, 0, "C1 20 00 02 0E 00 01 1F 80 89 7A");
        coded("patched", x, 0, 2);
        due("patched: work", x.piece(0, 0, 2), 33);
        x = new PackedColumns();
        x.sow(0, 32, 0, 0L, 3L, 1, 0L);
        written("steps", x, 0, "C1 20 00 03 02 06 00 01 00 00");
        due("steps: work", x.piece(0, 0, 2), 65);
        x = new PackedColumns();
        repeat(x, 16, 0x0123456789ABCDEFL);
        repeat(x, 16, 0x7EDCBA9876543210L);
        written("runs", x, 0, "C1 20 00 04 02 00 01 23 45 67 89 AB CD EF 7E DC BA 98 76 54 32 10 01 20 00");
        coded("runs", x, 0, 4, 0);
        due("runs: work", x.piece(0, 0, 2), 32 + 2 + 2);
        x = new PackedColumns();
        for (int i = 0; i < 16; i++) {
            add(x, 0x7EDCBA9876543210L, 0x0123456789ABCDEFL);
        }
        written("list", x, 0, "C1 20 00 05 02 00 01 23 45 67 89 AB CD EF 7E DC BA 98 76 54 32 10 55 55 55 55");
        coded("list", x, 0, 5, 0);
        due("list: work", x.piece(0, 0, 2), 32 + 2);
        x = with(-1000003L, 0L, 2000006L, 3000009L, 1000003L, 0L, -2000006L, 2000006L);
        x.pack(0);
        written("shares", x, 0, "C1 08 00 06 C3 84 3D 01 03 03 11 3B 81");
        coded("shares", x, 0, 6, 1);
        due("shares: work", x.piece(0, 0, 2), 16);
    }

    private static void chosenWays() {
        promise = 9;
        PackedColumns x = with(0L);
        x.pack(0);
        written("one zero", x, 0, "C1 01 00 01 00 00");
        x = with(Long.MIN_VALUE);
        x.pack(0);
        written("one least long", x, 0, "C1 01 00 00 80 00 00 00 00 00 00 00");
        x = with(Long.MIN_VALUE, 0L, 0L, 0L);
        x.way(0, 0, 1000);
        x.pack(0);
        written("a patch beside a far one", x, 0, "C1 04 00 02 00 00 01 00 FF FF FF FF FF FF FF FF FF 01");
        x = with(6L);
        x.pack(0);
        coded("a divisor of one value is of no use", x, 0, 1);
        x = new PackedColumns();
        x.value(0, 1L << 62);
        x.pack(0);
        written("one value by its divisor", x, 0, "C1 01 00 00 40 00 00 00 00 00 00 00");
        promise = 4;
        x = new PackedColumns();
        x.way(0, 2, 32);
        repeat(x, 31, 7L);
        x.value(0, 1000000L);
        due("a limit of 32 leaves no patch", x.piece(0, 0, 2), 32);
        coded("a limit of 32 leaves no patch", x, 0, 1);
        x.way(0, 2, 33);
        x.pack(0);
        coded("a limit of 33 leaves one", x, 0, 2);
    }

    private static void code() {
        promise = 16;
        PackedColumns x = new PackedColumns();
        x.sow(0, 33, 0, 0L, 3L, 1, 0L);
        due("code(0, 0, 0)", x.code(0, 0, 0), 3);
        due("code(0, 0, 1)", x.code(0, 0, 1), 2);
        due("code(0, 0, 2)", x.code(0, 0, 2), NONE);
        due("code(0, 0, -1)", x.code(0, 0, -1), NONE);
        due("the greatest int", x.code(0, 0, Integer.MAX_VALUE), NONE);
        due("the least int", x.code(0, 0, Integer.MIN_VALUE), NONE);
        due("an open one", x.code(0, 1, 0), NONE);
        due("piece 2", x.code(0, 2, 0), NONE);
        due("piece -1", x.code(0, -1, 0), NONE);
        due("column -1", x.code(-1, 0, 0), NONE);
        due("column 4", x.code(4, 0, 0), NONE);
        x = new PackedColumns();
        loaded(x, 0, checked("C1 02 00 05 02 06 03 01 00 02 04 02"));
        coded("three turns", x, 0, 5, 6, 1);
    }

    private static void front() {
        promise = 17;
        PackedColumns x = new PackedColumns();
        due("column -1", x.front(-1, 0), NONE);
        due("column 4", x.front(4, 0), NONE);
        due("no piece", x.front(0, 0), NONE);
        x.sow(0, 32, 0, 0L, 3L, 1, 0L);
        due("piece -1", x.front(0, -1), NONE);
        due("piece 1", x.front(0, 1), NONE);
        due("front", x.front(0, 0), 3);
        int[][] pairs = {{11, 65}, {16, 64}, {35, 32}};
        promise = 18;
        for (int k = 0; k < 3; k++) {
            due("pair(" + k + ", 0)", x.pair(k, 0), pairs[k][0]);
            due("pair(" + k + ", 1)", x.pair(k, 1), pairs[k][1]);
        }
        due("pair(-1, 0)", x.pair(-1, 0), NONE);
        due("pair(3, 0)", x.pair(3, 0), NONE);
        due("pair(0, 2)", x.pair(0, 2), NONE);
        due("pair(0, -1)", x.pair(0, -1), NONE);
        x.front(0, 9);
        x.sow(0, 40, 0, 0L, 77L, 9, 1L);
        x.pack(0);
        due("a refused front() and a pack() leave it", x.pair(2, 0), 35);
        promise = 17;
        x.way(0, 0, 32);
        due("at depth 0", x.front(0, 0), 1);
        due("its bytes", x.pair(0, 0), 35);
        x.way(0, 2, 32);
        due("the limit does not matter", x.front(0, 0), 3);
        for (int i = 0; i < 4; i++) {
            x.set(0, i, 0L);
        }
        x.front(0, 0);
        due("the values as they are", x.pair(0, 0), 14);
        x = with(5L, 5L);
        x.missing(0);
        due("of an open piece", x.front(0, 0), 1);
        due("of the whole piece", x.pair(0, 0), 8);
        due("its work", x.pair(0, 1), 2);
        x = new PackedColumns();
        x.missing(0);
        due("without a value", x.front(0, 0), 1);
        due("its bytes", x.pair(0, 0), 6);
        due("its work", x.pair(0, 1), 0);
        promise = 18;
        due("ahead of any", new PackedColumns().pair(0, 0), NONE);
    }

    private static PackedColumns threePieces() {
        PackedColumns x = new PackedColumns();
        x.sow(0, 32, 0, 0L, 1L, 1, 0L);
        x.sow(0, 32, 0, 100L, 1L, 1, 0L);
        x.missing(0);
        x.sow(0, 4, 0, 10L, 100L, 1, 0L);
        return x;
    }

    private static void among() {
        promise = 19;
        PackedColumns x = threePieces();
        due("all", x.among(0, Long.MIN_VALUE, Long.MAX_VALUE), 68);
        due("of the first piece", x.among(0, 5L, 9L), 5);
        due("of two pieces and the open one", x.among(0, 31L, 110L), 1 + 11 + 1);
        due("one value", x.among(0, 310L, 310L), 1);
        due("none", x.among(0, 40L, 90L), 0);
        due("least above greatest", x.among(0, 9L, 5L), 0);
        due("column -1", x.among(-1, 0L, 1L), NONE);
        due("column 4", x.among(4, 0L, 1L), NONE);
        due("an empty column", x.among(1, 0L, 1L), 0);
        x.set(0, 0, 1000L);
        x.set(0, 32, 5L);
        due("with changes", x.among(0, 0L, 31L), 31 + 1 + 1);
    }

    private static void sum() {
        promise = 20;
        PackedColumns x = threePieces();
        due("of the first piece", x.sum(0, 5L, 9L), 35);
        due("of all", x.sum(0, Long.MIN_VALUE, Long.MAX_VALUE), 496 + 3696 + 640);
        due("none", x.sum(0, 40L, 90L), 0);
        due("least above greatest", x.sum(0, 9L, 5L), 0);
        due("column -1", x.sum(-1, 0L, 1L), 0);
        due("column 4", x.sum(4, 0L, 1L), 0);
        x.set(0, 0, 1000L);
        due("with a change", x.sum(0, 31L, 2000L), 31 + 3696 + 630 + 1000);
        x.value(1, Long.MAX_VALUE);
        x.value(1, Long.MAX_VALUE);
        due("it wraps", x.sum(1, 0L, Long.MAX_VALUE), -2L);
    }

    private static void looked() {
        promise = 21;
        PackedColumns x = threePieces();
        due("ahead of any", x.looked(), 0);
        x.among(0, 0L, 31L);
        due("among: one within, one apart", x.looked(), 0);
        x.sum(0, 0L, 31L);
        due("sum: one within, one apart", x.looked(), 1);
        x.among(0, 0L, 30L);
        due("among: one end within", x.looked(), 1);
        x.among(0, 31L, 100L);
        due("among: an end of each", x.looked(), 2);
        x.among(7, 0L, 1L);
        due("a refused among()", x.looked(), 2);
        x.sum(-1, 0L, 1L);
        due("a refused sum()", x.looked(), 2);
        x.sum(0, 32L, 99L);
        due("between them", x.looked(), 0);
        x.sum(0, Long.MIN_VALUE, Long.MAX_VALUE);
        due("sum: all", x.looked(), 2);
        x.sum(1, 0L, 1L);
        due("an empty column", x.looked(), 0);
        x.set(0, 0, 50L);
        x.among(0, 0L, 0L);
        due("the least one was changed", x.looked(), 0);
        x.among(0, 40L, 60L);
        due("the greatest one is another", x.looked(), 1);
        x.among(0, 1L, 50L);
        due("both ends of it", x.looked(), 0);
        x.pack(0);
        x.among(0, 10L, 10L);
        due("a short packed one, too", x.looked(), 2);
        x = new PackedColumns();
        for (int i = 0; i < 32; i++) {
            x.missing(0);
        }
        x.sum(0, Long.MIN_VALUE, Long.MAX_VALUE);
        due("a piece without a value", x.looked(), 0);
        x.among(0, Long.MIN_VALUE, Long.MAX_VALUE);
        due("a piece without a value", x.looked(), 0);
    }

    private static void take() {
        promise = 22;
        PackedColumns x = new PackedColumns();
        repeat(x, 33, 5L);
        x.feed(1, 2, 3, 4, 5);
        due("an open one", x.take(0, 1), NONE);
        due("piece 2", x.take(0, 2), NONE);
        due("piece -1", x.take(0, -1), NONE);
        due("column -1", x.take(-1, 0), NONE);
        due("column 4", x.take(4, 0), NONE);
        yes("the tape is as it was", x.end(20));
        due("take", x.take(0, 0), 7);
        no("the tape has these alone", x.end(8));
        yes("end(7)", x.end(7));
        due("load", x.load(1), 32);
        due("get", x.get(1, 31), 5L);
        x.set(0, 0, 5L);
        due("with a change", x.take(0, 0), NONE);
        x.pack(0);
        due("packed anew", x.take(0, 0), 7);
        due("a short one", x.take(0, 1), 7);
        x.value(0, 6L);
        due("open again", x.take(0, 1), NONE);
    }

    private static void load() {
        promise = 23;
        PackedColumns x = new PackedColumns();
        String three = checked("C1 03 00 01 0A 02 24");
        lay(x, three);
        due("column 4", x.load(4), -2);
        due("its fault", x.fault(0), 0);
        no("the tape went", x.end(1));
        lay(x, three);
        due("column -1", x.load(-1), -2);
        loadOfNoColumn(-1, three);
        loadOfNoColumn(4, three);
        loadOfNoColumn(Integer.MIN_VALUE, three);
        loadOfNoColumn(Integer.MAX_VALUE, three);
        due("three rows", loaded(x, 0, three), 3);
        no("the tape went", x.end(1));
        due("load of no byte", x.load(0), NONE);
        lay(x, three + " 00");
        due("with a fault", x.load(0), NONE);
        no("the tape went", x.end(1));
        due("rows", x.count(0, 0), 3);
        x.sow(0, 64, 0, 0L, 1L, 1, 0L);
        x.sow(0, 64, 0, 0L, 1L, 1, 0L);
        x.sow(0, 27, 0, 0L, 1L, 1, 0L);
        due("rows", x.count(0, 0), 158);
        due("beyond 160", loaded(x, 0, three), -2);
        due("its fault", x.fault(0), 0);
        due("its place", x.fault(1), NONE);
        due("rows", x.count(0, 0), 158);
        due("to 160", loaded(x, 0, checked("C1 02 00 01 0A 02 04")), 160);
        due("the last piece is packed", x.piece(0, 4, 4), 0);
        due("full", loaded(x, 0, three), -2);
        due("a fault ahead of it", loaded(x, 0, three + " 00"), -1);
    }

    /** The bytes are read ahead of the column: with a fault it is -1, whatever the column is. */
    private static void loadOfNoColumn(int column, String sound) {
        PackedColumns x = new PackedColumns();
        String of = " in column " + column;
        due("no byte" + of, x.load(column), -1);
        due("its fault", x.fault(0), 1);
        due("its place", x.fault(1), 0);
        due("sound bytes" + of, loaded(x, column, sound), -2);
        due("no fault", x.fault(0), 0);
        due("no place", x.fault(1), NONE);
        due("another first byte" + of, loaded(x, column, "C2 03"), -1);
        due("its fault", x.fault(0), 2);
        due("its place", x.fault(1), 0);
        no("the tape went", x.end(1));
        due("a turn that is none" + of, loaded(x, column, checked("C1 01 00 07")), -1);
        due("its fault", x.fault(0), 3);
        due("its place", x.fault(1), 3);
        due("a byte behind the check" + of, loaded(x, column, sound + " 00"), -1);
        due("its fault", x.fault(0), 4);
        due("its place", x.fault(1), 8);
        due("rows of column 0", x.count(0, 0), 0);
    }

    private static void loadKeepsOrUnpacks() {
        promise = 23;
        PackedColumns x = new PackedColumns();
        String odd = "C1 03 01 04 03 02 0A 40 00 05 00 00 00 00 00 00 00 01 00 00 00 00 00 00 00";
        due("kept", loaded(x, 0, checked(odd)), 3);
        written("kept", x, 0, odd);
        coded("kept", x, 0, 3, 2);
        due("work", x.piece(0, 0, 2), 4);
        due("packed", x.piece(0, 0, 4), 0);
        due("get 0", x.get(0, 0), 10L);
        due("get 1", x.get(0, 1), 16L);
        due("has 2", x.has(0, 2), 0);
        due("missing ones", x.count(0, 2), 1);
        x.among(0, 10L, 16L);
        due("its ends are known", x.looked(), 0);
        due("a change", x.set(0, 1, 7L), 1);
        due("a second one behind it", loaded(x, 0, checked(odd)), 6);
        due("open again", x.piece(0, 0, 4), 1);
        due("changes", x.piece(0, 0, 3), 0);
        due("the changed one", x.get(0, 1), 7L);
        due("get 4", x.get(0, 4), 16L);
        due("has 5", x.has(0, 5), 0);
        x.sow(0, 26, 0, 0L, 0L, 1, 0L);
        due("whole pieces", x.count(0, 0), 32);
        due("kept behind them", loaded(x, 0, checked(odd)), 35);
        written("kept behind them", x, 1, odd);
        due("value behind it", x.value(0, 3L), 35);
        due("open again", x.piece(0, 1, 4), 1);
        x.clear(0);
        x.sow(0, 30, 0, 5L, 0L, 1, 0L);
        due("over a piece's end", loaded(x, 0, checked(odd)), 33);
        due("the first is packed", x.piece(0, 0, 4), 0);
        due("the second is open", x.piece(0, 1, 4), 1);
        due("get 31", x.get(0, 31), 16L);
        due("has 32", x.has(0, 32), 0);
        x.pack(0);
        x.clear(0);
        due("five whole ones", fill(x), 160);
    }

    private static int fill(PackedColumns x) {
        int rows = 0;
        for (int i = 0; i < 5; i++) {
            rows = loaded(x, 0, checked("C1 20 00 01 0A 00"));
        }
        return rows;
    }

    private static void reads(String what, String hex, long... rows) {
        PackedColumns x = new PackedColumns();
        due(what, loaded(x, 0, checked(hex)), rows.length);
        due(what + ": fault", x.fault(0), 0);
        for (int i = 0; i < rows.length; i++) {
            due(what + ": row " + i, x.get(0, i), rows[i]);
        }
        written(what, x, 0, hex);
    }

    private static void readForms() {
        promise = 23;
        String ones = " FF FF FF FF FF FF FF FF";
        reads("plain", "C1 01 00 00 80 00 00 00 00 00 00 01", Long.MIN_VALUE + 1);
        reads("narrow by 64 bits wraps", "C1 01 00 01 01 40" + ones, -2L);
        reads("a greatest varint", "C1 01 00 01 FF FF FF FF FF FF FF FF FF 01 00", Long.MIN_VALUE);
        reads("a varint longer than need be", "C1 01 00 01 8A 80 00 00", 5L);
        reads("a varint of ten bytes for 0", "C1 01 00 01 80 80 80 80 80 80 80 80 80 00 00", 0L);
        reads("bits that fill up", "C1 03 00 01 0A 02 E4", 5L, 6L, 7L);
        reads("a missing flag without one", "C1 02 01 FC 01 0A 01 02", 5L, 6L);
        reads("patched by 64 bits", "C1 01 00 02 01 40 00" + ones, -2L);
        reads("patched: all are", "C1 02 00 02 00 00 02 00 0A 01 0C", 5L, 6L);
        reads("patched: bits at a place", "C1 02 00 02 00 01 01 00 0A 03", 5L, 1L);
        reads("patched: no base among them", "C1 02 00 02 C8 01 02 00 08", 100L, 102L);
        reads("steps of one", "C1 01 00 03 01 0A 00", 5L);
        reads("runs of one", "C1 01 00 04 01 01 0A 00 01 02 00", 5L);
        reads("runs of like ones", "C1 03 00 04 02 01 0A 00 01 02 01 02", 5L, 5L, 5L);
        reads("lengths by 64 bits", "C1 02 00 04 01 01 0A 00 01 00 40 02 00 00 00 00 00 00 00", 5L, 5L);
        reads("list of one", "C1 03 00 05 01 01 0A 00", 5L, 5L, 5L);
        reads("list, falling, and more than used", "C1 03 00 05 03 00 00 00 00 00 00 00 00 09 00 00 00 00 00 00 00 08"
                + " 00 00 00 00 00 00 00 08 04", 9L, 8L, 9L);
        reads("shares", "C1 02 00 06 02 01 05 02 00", -6L, -6L);
        reads("shares with a greatest divisor", "C1 01 00 06 FF FF FF FF FF FF FF FF FF 01 01 0A 00", -5L);
        reads("shares of zeros", "C1 02 00 06 05 01 00 00", 0L, 0L);
        reads("three deep", "C1 03 00 03 06 03 01 02 00", 3L, 6L, 9L);
        PackedColumns x = new PackedColumns();
        due("no values, all turns", loaded(x, 0, checked("C1 01 01 01 03 06 05 02 00 00 00")), 1);
        due("has", x.has(0, 0), 0);
        due("work", x.piece(0, 0, 2), 0);
        x = new PackedColumns();
        loaded(x, 0, checked("C1 04 00 04 02 04 01 02 0A 00 01 00 0E 01 04 00 01 04 00"));
        due("runs in runs", x.get(0, 3), 7L);
        due("their work", x.piece(0, 0, 2), 4 + 2 + (2 + 1 + (1 + 1)));
    }

    private static void fails(String what, String hex, int kind, int place) {
        PackedColumns x = new PackedColumns();
        due(what, loaded(x, 0, hex), NONE);
        due(what + ": its fault", x.fault(0), kind);
        due(what + ": its place", x.fault(1), place);
        due(what + ": rows", x.count(0, 0), 0);
    }

    private static void faults() {
        promise = 24;
        fails("no byte", "", 1, 0);
        fails("the first byte", "C0 01 00", 2, 0);
        fails("rows lack", "C1", 1, 1);
        fails("rows 0", "C1 00 02", 2, 1);
        fails("rows 33", "C1 21 02", 2, 1);
        fails("the flag lacks", "C1 20", 1, 2);
        fails("the flag 2", "C1 20 02", 2, 2);
        fails("missing bits lack", "C1 09 01 FF", 1, 4);
        fails("a turn lacks", "C1 01 00", 1, 3);
        fails("a turn 7", "C1 01 00 07", 3, 3);
        fails("a turn 255", "C1 01 00 FF", 3, 3);
        fails("plain lacks", "C1 02 00 00 01 02 03 04 05 06 07 08 09", 1, 13);
        fails("a varint lacks", "C1 01 00 01 80", 1, 5);
        fails("nine bytes of a varint", "C1 01 00 01 FF FF FF FF FF FF FF FF FF", 1, 13);
        fails("a varint of 65 bits", "C1 01 00 01 80 80 80 80 80 80 80 80 80 02 00", 2, 4);
        fails("a varint of eleven bytes", "C1 01 00 01 80 80 80 80 80 80 80 80 80 80 00", 2, 4);
        fails("narrow: w lacks", "C1 01 00 01 00", 1, 5);
        fails("narrow: w 65", "C1 01 00 01 00 41", 2, 5);
        fails("narrow: bits lack", "C1 02 00 01 00 05 00", 1, 7);
        fails("patched: w 65", "C1 02 00 02 00 41", 2, 5);
        fails("patched: k above m", "C1 02 00 02 00 00 03", 2, 6);
        fails("patched: a place of m", "C1 02 00 02 00 00 01 02", 2, 7);
        fails("patched: a place twice", "C1 02 00 02 00 00 02 00 00 00", 2, 9);
        fails("patched: a place below", "C1 03 00 02 00 00 02 02 00 01", 2, 9);
        fails("patched: a varint of 65 bits", "C1 02 00 02 00 00 01 00 FF FF FF FF FF FF FF FF FF 02", 2, 8);
        fails("patched: k of no values", "C1 01 01 01 02 00 00 01", 2, 7);
        fails("steps: another turn lacks", "C1 02 00 03", 1, 4);
        fails("four deep", "C1 02 00 03 03 03 01 00 00", 3, 6);
        fails("four deep lacks", "C1 02 00 03 03 03", 1, 6);
        fails("runs: k 0", "C1 02 00 04 00", 2, 4);
        fails("runs: k above m", "C1 02 00 04 03", 2, 4);
        fails("runs: of no values", "C1 01 01 01 04 00", 2, 5);
        fails("runs: lengths' byte 0", "C1 02 00 04 01 01 0A 00 00", 3, 8);
        fails("runs: lengths' byte 2", "C1 02 00 04 01 01 0A 00 02", 3, 8);
        fails("runs: fewer than m", "C1 02 00 04 01 01 0A 00 01 02 00", 2, 8);
        fails("runs: more than m", "C1 02 00 04 01 01 0A 00 01 06 00", 2, 8);
        fails("runs: one of 0", "C1 02 00 04 02 01 0A 00 01 00 02 08", 2, 8);
        fails("runs: one below 0", "C1 02 00 04 02 01 0A 00 01 01 03 20", 2, 8);
        fails("runs: w 65", "C1 02 00 04 01 01 0A 00 01 02 41", 2, 10);
        fails("runs: lengths lack", "C1 02 00 04 02 01 0A 00 01 00 02", 1, 11);
        fails("runs: their sum wraps", "C1 03 00 04 03 01 0A 00 01 00 40 FF FF FF FF FF FF FF 7F"
                + " FF FF FF FF FF FF FF 7F 05 00 00 00 00 00 00 00", 2, 8);
        fails("list: k 0", "C1 02 00 05 00", 2, 4);
        fails("list: k above m", "C1 02 00 05 03", 2, 4);
        fails("list: of no values", "C1 01 01 01 05 01", 2, 5);
        fails("list: a number of k", "C1 03 00 05 03 01 0A 00 30", 2, 8);
        fails("list: a number of k far behind", "C1 06 00 05 03 01 0A 00 00 0C", 2, 8);
        fails("list: numbers lack", "C1 06 00 05 03 01 0A 00 30", 1, 9);
        fails("shares: a divisor 0", "C1 02 00 06 00", 2, 4);
        fails("shares: a divisor 1", "C1 02 00 06 01", 2, 4);
        fails("shares: a long 0", "C1 02 00 06 80 80 00", 2, 4);
        fails("shares: a varint of 65 bits", "C1 02 00 06 FF FF FF FF FF FF FF FF FF 03", 2, 4);
        fails("the check lacks", "C1 03 00 01 0A 02 24", 1, 7);
        int[] right = bytesOf(checked("C1 03 00 01 0A 02 24"));
        String other = String.format(" %02X", (right[7] + 1) % 256);
        fails("the check is another one", "C1 03 00 01 0A 02 24" + other, 4, 7);
        fails("it is another one, with bytes behind", "C1 03 00 01 0A 02 24" + other + " 00", 4, 7);
        fails("a byte behind", checked("C1 03 00 01 0A 02 24") + " 00", 4, 8);
        fails("two bytes behind", checked("C1 03 00 01 0A 02 24") + " 00 00", 4, 8);
        fails("a value is another one", "C1 03 00 01 0C 02 24" + String.format(" %02X", right[7]), 4, 7);
    }

    private static void faultAnswers() {
        promise = 24;
        PackedColumns x = new PackedColumns();
        due("ahead of any", x.fault(0), 0);
        due("its place", x.fault(1), NONE);
        due("what 2", x.fault(2), NONE);
        due("what -1", x.fault(-1), NONE);
        loaded(x, 0, "C1 02 00 01 00");
        due("a fault", x.fault(0), 1);
        due("its place", x.fault(1), 5);
        x.value(0, 1L);
        x.pack(0);
        x.set(0, 0, 3L);
        due("get", x.get(0, 0), 3L);
        due("it stays", x.fault(0), 1);
        due("its place stays", x.fault(1), 5);
        due("what 2", x.fault(2), NONE);
        loaded(x, 0, checked("C1 03 00 01 0A 02 24"));
        due("without", x.fault(0), 0);
        due("its place", x.fault(1), NONE);
        loaded(x, 4, "C1 21");
        due("with no such column, too", x.fault(0), 2);
        due("its place", x.fault(1), 1);
        loaded(x, 4, checked("C1 03 00 01 0A 02 24"));
        due("without again", x.fault(0), 0);
        due("its place", x.fault(1), NONE);
    }

    /** Numbers as far out as can be: all are refused, and nothing is thrown or changed. */
    private static void farNumbers() {
        PackedColumns x = new PackedColumns();
        repeat(x, 40, 5L);
        x.front(0, 0);
        int[] far = {Integer.MIN_VALUE, Integer.MIN_VALUE + 1, -1000000, -1, 1000000, Integer.MAX_VALUE - 1,
            Integer.MAX_VALUE};
        for (int n : far) {
            String of = " of " + n;
            for (promise = 1; promise <= 24; promise++) {
                for (int place = 0; place < 7; place++) {
                    farCall(x, n, place, of);
                }
            }
        }
        promise = 1;
        due("rows are as they were", x.count(0, 0), 40);
        due("values are as they were", x.sum(0, Long.MIN_VALUE, Long.MAX_VALUE), 200);
        due("missing ones are as they were", x.count(0, 2), 0);
    }

    private static void farCall(PackedColumns x, int n, int place, String of) {
        int a = place == 0 ? n : 0;
        int b = place == 1 ? n : 0;
        int c = place == 2 ? n : 0;
        boolean two = place < 2;
        boolean three = place < 3;
        switch (promise) {
            case 3 -> no("end" + of, x.end(n));
            case 4 -> no("way" + of, x.way(a, b, three && place == 2 ? n : place > 2 ? 0 : 100));
            case 5 -> due("value" + of, x.value(n, 1L), NONE);
            case 6 -> due("missing" + of, x.missing(n), NONE);
            case 7 -> due("sow" + of, x.sow(a, place == 1 ? n : 1, 0, n, n, place > 1 ? n == 1000000 ? 0 : n : 1, n),
                    NONE);
            case 8 -> due("set" + of, two ? x.set(a, b, n) : NONE, NONE);
            case 9 -> due("pack" + of, x.pack(n), NONE);
            case 10 -> due("clear" + of, x.clear(n), NONE);
            case 11 -> due("count" + of, two ? x.count(a, b) : NONE, NONE);
            case 12 -> due("has" + of, two ? x.has(a, b) : NONE, NONE);
            case 13 -> due("get" + of, two ? x.get(a, b) : 0, 0);
            case 14 -> due("piece" + of, three ? x.piece(a, b, c) : NONE, NONE);
            case 15 -> due("at" + of, three ? x.at(a, b, c) : NONE, NONE);
            case 16 -> due("code" + of, three ? x.code(a, b, c) : NONE, NONE);
            case 17 -> due("front" + of, two ? x.front(a, b) : NONE, NONE);
            case 18 -> due("pair" + of, two ? x.pair(a, b) : NONE, NONE);
            case 19 -> due("among" + of, x.among(n, 0L, 1L), NONE);
            case 20 -> due("sum" + of, x.sum(n, 0L, 9L), 0);
            case 22 -> due("take" + of, two ? x.take(a, b) : NONE, NONE);
            case 23 -> {
                due("load" + of, loaded(x, n, checked("C1 03 00 01 0A 02 24")), -2);
                due("load of no byte" + of, x.load(n), -1);
            }
            case 24 -> due("fault" + of, x.fault(n), NONE);
            default -> { }
        }
    }
}
