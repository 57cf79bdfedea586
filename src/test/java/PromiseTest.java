/** Promises 1 to 24: each sentence of each of them has a test of its own, the calls that are refused among them. */
public final class PromiseTest extends Checks {
    public static void main(String[] args) {
        newObject();
        feed();
        end();
        way();
        valueAndMissing();
        sow();
        sowRefused();
        set();
        setChanges();
        pack();
        packThenGoOn();
        clear();
        count();
        hasAndGet();
        piece();
        atAndCode();
        front();
        pair();
        among();
        sum();
        looked();
        lookedByEnds();
        take();
        load();
        loadKeeps();
        loadUnpacks();
        fault();
        farNumbers();
        finish();
    }

    private static void newObject() {
        says("The constants: NONE = -1", () -> due("NONE", PackedColumns.NONE, -1));
        says("1 Empty COLUMNS", () -> {
            Store x = new Store();
            for (int c = 0; c < 4; c++) {
                for (int what = 0; what < 4; what++) {
                    due(x.count(c, what), 0);
                }
                due(x.has(c, 0), NONE);
                due(x.get(c, 0), 0L);
                due(x.piece(c, 0, 0), NONE);
                due(x.set(c, 0, 1L), NONE);
                due(x.front(c, 0), NONE);
                due(x.take(c, 0), NONE);
                due(x.among(c, LEAST, GREATEST), 0);
                due(x.sum(c, LEAST, GREATEST), 0L);
                due(x.pack(c), 0);
                due(x.clear(c), 0);
            }
        });
        says("1 Empty COLUMNS: the tape, too", () -> taped(new Store(), 0));
        says("1 Empty COLUMNS: of each object", () -> {
            Store x = with(5L);
            x.feed(1, 2, 3, 4, 5);
            Store other = new Store();
            due(other.count(0, 0), 0);
            taped(other, 0);
            rows(x, 0, 5L);
        });
    }

    private static void feed() {
        says("2 Twenty bytes come behind those on the tape, of each number the highest first", () -> {
            Store x = new Store();
            due(x.feed(0xC1040000, 0x80018283, 0x04050607, 0x08FEFDFC, 0x0B0C0D0E), 20);
            due(x.feed(0x0F101112, 0x13141516, 0x1718191A, 0x1B1C1D1E, 0x1F202122), 40);
            x.end(36);
            String hex = "C1 04 00 00 80 01 82 83 04 05 06 07 08 FE FD FC 0B 0C 0D 0E 0F 10 11 12 13 14 15 16"
                    + " 17 18 19 1A 1B 1C 1D 1E";
            int check = checkOf(hex);
            due(x.feed(check << 24, 0, 0, 0, 0), 56);
            x.end(37);
            due(x.load(0), 4);
            rows(x, 0, 0x8001828304050607L, 0x08FEFDFC0B0C0D0EL, 0x0F10111213141516L, 0x1718191A1B1C1D1EL);
        });
        says("2 feed: how many there are: up to 300", () -> {
            Store x = new Store();
            for (int i = 1; i <= 15; i++) {
                due(x.feed(i, i, i, i, i), 20 * i);
            }
        });
        says("2 feed: NONE, doing nothing, if there would be more than 300: at 300", () -> {
            Store x = new Store();
            lay(x, THREE + times(292, "00"));
            due(x.feed(1, 2, 3, 4, 5), NONE);
            taped(x, 300);
            x.end(8);
            due(x.load(0), 3);
            rows(x, 0, 5L, 6L, 7L);
        });
        says("2 feed: NONE, doing nothing, if there would be more than 300: 301 of them", () -> {
            Store x = new Store();
            lay(x, times(281, "00"));
            due(x.feed(1, 2, 3, 4, 5), NONE);
            taped(x, 281);
        });
        says("2 feed: NONE, .. if there would be more than 300: not with 300 of them", () -> {
            Store x = new Store();
            lay(x, times(280, "00"));
            due(x.feed(1, 2, 3, 4, 5), 300);
            taped(x, 300);
        });
    }

    private static void end() {
        says("3 The tape has its first n bytes alone: true", () -> {
            Store x = new Store();
            lay(x, THREE + " 00 00 00");
            yes(x.end(8));
            taped(x, 8);
            due(x.load(0), 3);
        });
        says("3 The tape has its first n bytes alone: as many as it has, and none", () -> {
            Store x = new Store();
            lay(x, THREE);
            yes(x.end(8));
            taped(x, 8);
            yes(x.end(0));
            taped(x, 0);
            yes(x.end(0));
            due(x.feed(0, 0, 0, 0, 0), 20);
        });
        says("3 end: false, doing nothing, if it has not so many", () -> {
            Store x = new Store();
            no(x.end(1));
            lay(x, THREE);
            no(x.end(9));
            no(x.end(300));
            no(x.end(Integer.MAX_VALUE));
            taped(x, 8);
            due(x.load(0), 3);
        });
        says("3 end: false, doing nothing, if .. n is below 0", () -> {
            Store x = new Store();
            no(x.end(-1));
            lay(x, THREE);
            no(x.end(-1));
            no(x.end(Integer.MIN_VALUE));
            taped(x, 8);
            due(x.load(0), 3);
        });
        says("3 end: bytes that went do not come again", () -> {
            Store x = new Store();
            lay(x, THREE);
            yes(x.end(4));
            no(x.end(8));
            due(x.feed(0, 0, 0, 0, 0), 24);
            x.end(8);
            due(x.load(0), NONE);
        });
    }

    /** Rows of column c that are written by other codes at other depths and limits. */
    private static void sowSteps(Store x, int c) {
        x.sow(c, 32, 1, 0L, 3L, 1, 0L);
    }

    private static void way() {
        says("4 DEPTH and LIMIT of a COLUMN from now on: true", () -> {
            Store x = new Store();
            sowSteps(x, 0);
            yes(x.way(0, 0, 1000));
            coded(x, 0, 3, 2);
            sowSteps(x, 0);
            coded(x, 1, 1);
            yes(x.way(0, 2, 64));
            sowSteps(x, 0);
            coded(x, 2, 3, 1);
        });
        says("4 DEPTH and LIMIT of a COLUMN: of no other", () -> {
            for (int c = 0; c < 4; c++) {
                Store x = new Store();
                yes(x.way(c, 0, 32));
                for (int other = 0; other < 4; other++) {
                    sowSteps(x, other);
                    due(x.code(other, 0, 0), other == c ? 1 : 3);
                }
            }
        });
        says("4 DEPTH and LIMIT: the least and the greatest of both", () -> {
            Store x = new Store();
            yes(x.way(0, 0, 32));
            yes(x.way(0, 0, 1000));
            yes(x.way(0, 2, 32));
            yes(x.way(0, 2, 1000));
            yes(x.way(3, 1, 33));
            yes(x.way(3, 1, 999));
        });
        says("4 way: false if there is none such", () -> {
            Store x = new Store();
            for (int c : NO_COLUMNS) {
                no(x.way(c, 1, 100));
            }
        });
        says("4 way: false if .. one can't be: a DEPTH; nothing is done", () -> {
            Store x = new Store();
            no(x.way(0, -1, 32));
            no(x.way(0, 3, 32));
            no(x.way(0, Integer.MIN_VALUE, 32));
            no(x.way(0, Integer.MAX_VALUE, 32));
            sowSteps(x, 0);
            coded(x, 0, 3, 2);
        });
        says("4 way: false if .. one can't be: a LIMIT; nothing is done", () -> {
            Store x = new Store();
            no(x.way(0, 0, 31));
            no(x.way(0, 0, 1001));
            no(x.way(0, 0, 0));
            no(x.way(0, 0, -32));
            no(x.way(0, 0, Integer.MIN_VALUE));
            no(x.way(0, 0, Integer.MAX_VALUE));
            sowSteps(x, 0);
            coded(x, 0, 3, 2);
        });
        says("4 DEPTH and LIMIT of a COLUMN from now on: behind clear(), too", () -> {
            Store x = new Store();
            x.way(0, 2, 32);
            sowSteps(x, 0);
            x.clear(0);
            sowSteps(x, 0);
            coded(x, 0, 1);
        });
    }

    private static void valueAndMissing() {
        says("5 A ROW more of a COLUMN, with a VALUE: its number: 0 .. 159", () -> {
            Store x = new Store();
            for (int i = 0; i < 160; i++) {
                due(x.value(3, i * 1000003L), i);
            }
            for (int i = 0; i < 160; i++) {
                due(x.get(3, i), i * 1000003L);
            }
        });
        says("5 value: NONE if there is none such", () -> {
            Store x = new Store();
            for (int c : NO_COLUMNS) {
                due(x.value(c, 1L), NONE);
            }
        });
        says("5 value: NONE if .. it has 160; nothing is done", () -> {
            Store x = full();
            int bytes = x.count(0, 3);
            due(x.value(0, 7L), NONE);
            due(x.value(0, 7L), NONE);
            due(x.count(0, 0), 160);
            due(x.count(0, 1), 5);
            due(x.count(0, 3), bytes);
            due(x.get(0, 159), 31L);
            due(x.value(1, 7L), 0);
        });
        says("6 A ROW more, MISSING: likewise: its number", () -> {
            Store x = new Store();
            for (int i = 0; i < 160; i++) {
                due(x.missing(0), i);
            }
            due(x.count(0, 2), 160);
            due(x.has(0, 0), 0);
            due(x.has(0, 159), 0);
            due(x.get(0, 159), 0L);
        });
        says("6 missing: likewise: NONE if there is none such", () -> {
            Store x = new Store();
            for (int c : NO_COLUMNS) {
                due(x.missing(c), NONE);
            }
        });
        says("6 missing: likewise: NONE if .. it has 160; nothing is done", () -> {
            Store x = full();
            due(x.missing(0), NONE);
            due(x.count(0, 0), 160);
            due(x.count(0, 2), 0);
            due(x.missing(1), 0);
        });
    }

    /** 160 rows, 0 .. 31 in each piece. */
    private static Store full() {
        Store x = new Store();
        for (int p = 0; p < 5; p++) {
            x.sow(0, 32, 1, 0L, 1L, 1, 0L);
        }
        return x;
    }

    private static void sow() {
        says("7 n (1 .. 64) ROWS more: how many ROWS there are then", () -> {
            Store x = new Store();
            due(x.sow(0, 1, 0, 5L, 9L, 1, 0L), 1);
            due(x.sow(0, 64, 0, 5L, 9L, 1, 0L), 65);
            due(x.sow(0, 2, 0, 5L, 9L, 1, 0L), 67);
            due(x.get(0, 1), 5L);
            due(x.get(0, 64), 5L + 63 * 9);
            due(x.get(0, 65), 5L);
            due(x.get(0, 66), 14L);
        });
        says("7 for each g becomes 1103515245 g + 12345 (an int, it wraps; seed at first)", () -> {
            Store x = new Store();
            x.sow(0, 3, 0, 0L, 0L, 1000000, 1L);
            long g = 0;
            for (int i = 0; i < 3; i++) {
                g = (1103515245L * g + 12345L) % (1L << 32);
                due(x.get(0, i), g / 256 % 1000000);
            }
        });
        says("7 (g >>> 8) % spread: of a g below 0, and of a seed at the ends of ints", () -> {
            Store x = new Store();
            x.sow(0, 1, 2, 0L, 0L, 1000000, 1L);
            due(x.get(0, 0), 621261L);
            x.sow(1, 1, Integer.MIN_VALUE, 0L, 0L, 1000000, 1L);
            due(x.get(1, 0), (0x80003039L >> 8) % 1000000);
            x.sow(2, 1, Integer.MAX_VALUE, 0L, 0L, 1000000, 1L);
            due(x.get(2, 0), ((1103515245L * Integer.MAX_VALUE + 12345L & 0xFFFFFFFFL) >> 8) % 1000000);
            x.sow(3, 1, -1, 0L, 0L, 1000000, 1L);
            due(x.get(3, 0), ((-1103515245L + 12345L & 0xFFFFFFFFL) >> 8) % 1000000);
        });
        says("7 % spread (1 .. 1000000) times by: 1 leaves none, 1000000 leaves 999999", () -> {
            Store x = new Store();
            due(x.sow(0, 64, 7, 0L, 0L, 1, GREATEST), 64);
            due(x.among(0, 0L, 0L), 64);
            due(x.sow(1, 1, 7, 5L, 0L, 1000000, -2L), 1);
            long g = 1103515245L * 7 + 12345 & 0xFFFFFFFFL;
            due(x.get(1, 0), 5L - 2 * ((g >> 8) % 1000000));
        });
        says("7 sow: sums wrap at 64 bits: first and step times its place", () -> {
            Store x = new Store();
            x.sow(0, 3, 9, GREATEST, 1L, 1, 5L);
            rows(x, 0, GREATEST, LEAST, LEAST + 1);
            x.sow(1, 4, 9, 1L, GREATEST, 1, 5L);
            rows(x, 1, 1L, LEAST, -1L, GREATEST - 1);
            x.sow(2, 3, 9, LEAST, LEAST, 1, 5L);
            rows(x, 2, LEAST, 0L, LEAST);
        });
        says("7 sow: sums wrap at 64 bits: times by", () -> {
            Store x = new Store();
            x.sow(0, 1, 0, 0L, 0L, 1000000, GREATEST);
            rows(x, 0, 48L * GREATEST);
            x.sow(1, 1, 0, GREATEST, 0L, 1000000, 1L);
            rows(x, 1, LEAST + 47);
        });
    }

    private static void sowRefused() {
        says("7 sow: NONE, doing nothing, if something can't be: n", () -> {
            Store x = with(5L);
            for (int n : new int[] {0, 65, -1, -64, Integer.MIN_VALUE, Integer.MAX_VALUE}) {
                due(x.sow(0, n, 0, 0L, 0L, 1, 0L), NONE);
            }
            rows(x, 0, 5L);
        });
        says("7 sow: NONE, doing nothing, if something can't be: spread", () -> {
            Store x = with(5L);
            for (int spread : new int[] {0, -1, 1000001, Integer.MIN_VALUE, Integer.MAX_VALUE}) {
                due(x.sow(0, 1, 0, 0L, 0L, spread, 0L), NONE);
            }
            rows(x, 0, 5L);
        });
        says("7 sow: NONE, doing nothing, if something can't be: the COLUMN", () -> {
            Store x = with(5L);
            for (int c : NO_COLUMNS) {
                due(x.sow(c, 1, 0, 0L, 0L, 1, 0L), NONE);
            }
            rows(x, 0, 5L);
        });
        says("7 sow: NONE, doing nothing, if .. there would be more than 160", () -> {
            Store x = new Store();
            due(x.sow(0, 64, 3, 0L, 1L, 1, 0L), 64);
            due(x.sow(0, 64, 3, 0L, 1L, 1, 0L), 128);
            due(x.sow(0, 33, 3, 0L, 1L, 1, 0L), NONE);
            due(x.sow(0, 64, 3, 0L, 1L, 1, 0L), NONE);
            due(x.count(0, 0), 128);
            due(x.count(0, 1), 4);
            due(x.sow(0, 31, 3, 0L, 1L, 1, 0L), 159);
            due(x.sow(0, 2, 3, 0L, 1L, 1, 0L), NONE);
            due(x.piece(0, 4, 4), 1);
            due(x.sow(0, 1, 3, 0L, 1L, 1, 0L), 160);
            due(x.sow(0, 1, 3, 0L, 1L, 1, 0L), NONE);
            due(x.count(0, 0), 160);
        });
        says("7 sow: NONE, .. more than 160: not with 160", () -> {
            Store x = new Store();
            x.sow(0, 64, 3, 0L, 1L, 1, 0L);
            x.sow(0, 32, 3, 0L, 1L, 1, 0L);
            due(x.sow(0, 64, 3, 0L, 1L, 1, 0L), 160);
            due(x.piece(0, 4, 4), 0);
        });
        says("7 sow: NONE, doing nothing: a packed PIECE stays so", () -> {
            Store x = packed(5L, 6L, 7L);
            due(x.sow(0, 65, 0, 0L, 0L, 1, 0L), NONE);
            due(x.sow(0, 1, 0, 0L, 0L, 0, 0L), NONE);
            due(x.piece(0, 0, 4), 0);
            written(x, 0, "C1 03 00 01 0A 02 24");
        });
    }

    private static void set() {
        says("8 A ROW has a VALUE from now on: of an OPEN PIECE: no CHANGE", () -> {
            Store x = with(1L, 2L);
            due(x.set(0, 0, 8L), 0);
            due(x.set(0, 1, LEAST), 0);
            rows(x, 0, 8L, LEAST);
            due(x.piece(0, 0, 3), 0);
            due(x.piece(0, 0, 4), 1);
        });
        says("8 A ROW has a VALUE from now on: also one that was MISSING: in an OPEN PIECE", () -> {
            Store x = new Store();
            x.missing(0);
            due(x.set(0, 0, 0L), 0);
            rows(x, 0, 0L);
            due(x.count(0, 2), 0);
        });
        says("8 A ROW has a VALUE from now on: also one that was MISSING: in a PACKED PIECE", () -> {
            Store x = new Store();
            gaps(x, 0, 32);
            due(x.set(0, 31, 0L), 1);
            due(x.has(0, 31), 1);
            due(x.get(0, 31), 0L);
            due(x.has(0, 30), 0);
            due(x.count(0, 2), 31);
            due(x.among(0, LEAST, GREATEST), 1);
        });
        says("8 A ROW has a VALUE from now on: of a PACKED PIECE, its bytes are as they were", () -> {
            Store x = full();
            due(x.set(0, 0, GREATEST), 1);
            due(x.set(0, 159, LEAST), 1);
            due(x.get(0, 0), GREATEST);
            due(x.get(0, 159), LEAST);
            due(x.get(0, 1), 1L);
            written(x, 0, "C1 20 00 03 02 02 00 01 00 00");
        });
        says("8 set: NONE if there is none such: a ROW", () -> {
            Store x = with(1L, 2L);
            due(x.set(0, 2, 9L), NONE);
            due(x.set(0, 31, 9L), NONE);
            due(x.set(0, 32, 9L), NONE);
            due(x.set(1, 0, 9L), NONE);
            for (int far : FAR) {
                due(x.set(0, far, 9L), NONE);
            }
            x.pack(0);
            due(x.set(0, 2, 9L), NONE);
            due(x.piece(0, 0, 3), 0);
            rows(x, 0, 1L, 2L);
        });
        says("8 set: NONE if there is none such: a COLUMN", () -> {
            Store x = with(1L);
            for (int c : NO_COLUMNS) {
                due(x.set(c, 0, 9L), NONE);
            }
            rows(x, 0, 1L);
        });
    }

    private static void setChanges() {
        says("8 set: how many CHANGES its PIECE has then (ROWS .. that were set, to whatever, each once)", () -> {
            Store x = full();
            due(x.set(0, 31, -7L), 1);
            due(x.set(0, 31, -8L), 1);
            due(x.set(0, 31, 31L), 1);
            due(x.set(0, 5, 5L), 2);
            due(x.set(0, 5, 5L), 2);
            due(x.set(0, 0, 7L), 3);
            due(x.set(0, 32, 7L), 1);
            due(x.piece(0, 0, 3), 3);
            due(x.piece(0, 1, 3), 1);
            due(x.piece(0, 2, 3), 0);
        });
        says("8 set: a ROW that is CHANGED again does not pack a PIECE with 4 CHANGES", () -> {
            Store x = full();
            for (int i = 0; i < 4; i++) {
                due(x.set(0, i, 9L), i + 1);
            }
            for (int i = 0; i < 4; i++) {
                due(x.set(0, i, 10L + i), 4);
            }
            due(x.piece(0, 0, 3), 4);
            written(x, 0, "C1 20 00 03 02 02 00 01 00 00");
            for (int i = 0; i < 5; i++) {
                due(x.get(0, i), i < 4 ? 10L + i : 4L);
            }
        });
        says("8 set: 0 with the 5th, then from 1 on", () -> {
            Store x = new Store();
            x.way(0, 0, 1000);
            repeat(x, 0, 32, 5L);
            for (int i = 0; i < 4; i++) {
                due(x.set(0, 8 * i, i == 3 ? 7L : 6L), i + 1);
            }
            due(x.set(0, 1, 8L), 0);
            written(x, 0, "C1 20 00 01 0A 02 0D 00 01 00 01 00 02 00");
            due(x.get(0, 24), 7L);
            due(x.get(0, 1), 8L);
            due(x.set(0, 1, 5L), 1);
            due(x.set(0, 8, 5L), 2);
            due(x.get(0, 1), 5L);
            due(x.get(0, 24), 7L);
        });
        says("8 set: 0 with the 5th, though all are set to what they were", () -> {
            Store x = full();
            for (int i = 0; i < 4; i++) {
                due(x.set(0, i, i), i + 1);
            }
            due(x.set(0, 4, 4L), 0);
            due(x.take(0, 0), 11);
        });
        says("8 set: CHANGES of a short PACKED PIECE", () -> {
            Store x = packed(1L, 2L, 3L, 4L, 5L);
            for (int i = 0; i < 4; i++) {
                due(x.set(0, i, 9L), i + 1);
            }
            due(x.set(0, 4, 9L), 0);
            due(x.piece(0, 0, 4), 0);
            written(x, 0, "C1 05 00 01 12 00");
        });
        says("8 set: CHANGES of a PIECE that was loaded", () -> {
            Store x = new Store();
            due(loaded(x, 0, THREE), 3);
            due(x.set(0, 1, 9L), 1);
            rows(x, 0, 5L, 9L, 7L);
            written(x, 0, "C1 03 00 01 0A 02 24");
        });
    }

    private static void pack() {
        says("9 All PIECES of a COLUMN are packed anew, the OPEN one, too: how many bytes they have", () -> {
            Store x = new Store();
            repeat(x, 0, 40, 5L);
            due(x.pack(0), 14);
            due(x.count(0, 3), 14);
            x.set(0, 3, 6L);
            x.set(0, 39, 7L);
            x.way(0, 0, 32);
            due(x.pack(0), 11 + 9);
            due(x.piece(0, 0, 3), 0);
            due(x.piece(0, 1, 3), 0);
            due(x.get(0, 3), 6L);
            due(x.get(0, 39), 7L);
        });
        says("9 All PIECES of a COLUMN are packed anew: also one without CHANGES, with DEPTH and LIMIT as"
                + " they are", () -> {
            Store x = full();
            due(x.count(0, 3), 55);
            x.way(0, 0, 32);
            due(x.pack(0), 5 * 27);
            for (int p = 0; p < 5; p++) {
                coded(x, p, 1);
            }
        });
        says("9 All PIECES of a COLUMN are packed anew: one that was loaded, too", () -> {
            Store x = new Store();
            loaded(x, 0, checked("C1 01 00 00 00 00 00 00 00 00 00 05"));
            due(x.piece(0, 0, 1), 13);
            due(x.pack(0), 7);
            written(x, 0, "C1 01 00 01 0A 00");
        });
        says("9 pack: of a COLUMN without ROWS", () -> {
            Store x = new Store();
            due(x.pack(0), 0);
            due(x.count(0, 1), 0);
            due(x.value(0, 1L), 0);
            due(x.piece(0, 0, 4), 1);
        });
        says("9 pack: of one ROW, of 160", () -> {
            due(with(5L).pack(0), 7);
            due(full().pack(0), 55);
        });
        says("9 pack: no other COLUMN is", () -> {
            Store x = with(5L);
            x.value(1, 5L);
            x.pack(0);
            due(x.piece(1, 0, 4), 1);
        });
        says("9 pack: NONE if there is none such", () -> {
            Store x = with(5L);
            for (int c : NO_COLUMNS) {
                due(x.pack(c), NONE);
            }
            due(x.piece(0, 0, 4), 1);
        });
    }

    private static void packThenGoOn() {
        says("9 the next ROW begins a new PIECE only if it has 32 ROWS", () -> {
            Store x = new Store();
            repeat(x, 0, 32, 4L);
            x.pack(0);
            due(x.value(0, 5L), 32);
            due(x.count(0, 1), 2);
            due(x.piece(0, 0, 4), 0);
            due(x.piece(0, 0, 0), 32);
            due(x.piece(0, 1, 4), 1);
            due(x.piece(0, 1, 0), 1);
        });
        says("9 else it is unpacked for it and is OPEN again: with 31 ROWS it is full then", () -> {
            Store x = new Store();
            repeat(x, 0, 31, 4L);
            x.pack(0);
            due(x.value(0, 4L), 31);
            due(x.count(0, 1), 1);
            due(x.piece(0, 0, 4), 0);
            written(x, 0, "C1 20 00 01 08 00");
        });
        says("9 else it is unpacked for it and is OPEN again: by value(), its CHANGES in it", () -> {
            Store x = with(5L, 6L, 7L);
            x.missing(0);
            x.pack(0);
            x.set(0, 0, 1L);
            x.set(0, 3, 2L);
            due(x.value(0, 9L), 4);
            due(x.piece(0, 0, 4), 1);
            due(x.count(0, 1), 1);
            due(x.piece(0, 0, 3), 0);
            due(x.piece(0, 0, 1), 0);
            due(x.piece(0, 0, 2), NONE);
            due(x.at(0, 0, 0), NONE);
            rows(x, 0, 1L, 6L, 7L, 2L, 9L);
            due(x.set(0, 0, 3L), 0);
        });
        says("9 else it is unpacked for it and is OPEN again: by missing()", () -> {
            Store x = packed(5L);
            due(x.missing(0), 1);
            due(x.piece(0, 0, 4), 1);
            rows(x, 0, 5L, null);
        });
        says("9 else it is unpacked for it and is OPEN again: by sow()", () -> {
            Store x = packed(5L);
            due(x.sow(0, 2, 0, 8L, 1L, 1, 0L), 3);
            due(x.piece(0, 0, 4), 1);
            rows(x, 0, 5L, 8L, 9L);
        });
        says("9 else it is unpacked for it and is OPEN again: by load()", () -> {
            Store x = packed(5L);
            due(loaded(x, 0, THREE), 4);
            due(x.piece(0, 0, 4), 1);
            rows(x, 0, 5L, 5L, 6L, 7L);
        });
        says("9 (it is closed then; ..): a PIECE that was OPEN again is packed again", () -> {
            Store x = packed(5L);
            x.value(0, 6L);
            due(x.pack(0), 8);
            written(x, 0, "C1 02 00 01 0A 01 02");
            due(x.piece(0, 0, 3), 0);
            due(x.set(0, 0, 5L), 1);
        });
        says("9 of a second PIECE: it is OPEN again, the first one stays PACKED", () -> {
            Store x = new Store();
            repeat(x, 0, 33, 5L);
            x.pack(0);
            x.set(0, 0, 6L);
            due(x.value(0, 7L), 33);
            due(x.piece(0, 0, 3), 1);
            due(x.piece(0, 0, 4), 0);
            due(x.piece(0, 1, 4), 1);
            due(x.get(0, 0), 6L);
            due(x.get(0, 32), 5L);
            due(x.get(0, 33), 7L);
        });
    }

    private static void clear() {
        says("10 All ROWS of a COLUMN go: how many there were", () -> {
            Store x = with(1L, 2L, 3L);
            due(x.clear(0), 3);
            for (int what = 0; what < 4; what++) {
                due(x.count(0, what), 0);
            }
            due(x.get(0, 0), 0L);
            due(x.has(0, 0), NONE);
            due(x.piece(0, 0, 4), NONE);
            due(x.value(0, 7L), 0);
            rows(x, 0, 7L);
        });
        says("10 clear: of a COLUMN without ROWS, and of 160", () -> {
            Store x = full();
            due(x.clear(1), 0);
            due(x.clear(0), 160);
            due(x.clear(0), 0);
            due(x.sow(0, 64, 1, 0L, 0L, 1, 0L), 64);
        });
        says("10 clear: no ROW of another COLUMN goes", () -> {
            Store x = with(1L);
            x.value(1, 4L);
            x.clear(0);
            rows(x, 1, 4L);
        });
        says("10 clear: CHANGES go, too", () -> {
            Store x = full();
            x.set(0, 1, 99L);
            x.clear(0);
            x.sow(0, 32, 0, 0L, 1L, 1, 0L);
            due(x.get(0, 1), 1L);
            due(x.piece(0, 0, 3), 0);
        });
        says("10 clear: an OPEN PIECE goes, and a short PACKED one", () -> {
            Store x = packed(1L);
            x.clear(0);
            due(x.value(0, 3L), 0);
            due(x.piece(0, 0, 4), 1);
            rows(x, 0, 3L);
            x.clear(0);
            due(x.sow(0, 32, 1, 6L, 0L, 1, 0L), 32);
            written(x, 0, "C1 20 00 01 0C 00");
            x.clear(0);
            due(loaded(x, 0, THREE), 3);
            due(x.piece(0, 0, 4), 0);
        });
        says("10 clear: NONE if there is none such", () -> {
            Store x = with(1L);
            for (int c : NO_COLUMNS) {
                due(x.clear(c), NONE);
            }
            rows(x, 0, 1L);
        });
    }

    private static void count() {
        says("11 How many ROWS (what 0)", () -> {
            Store x = new Store();
            repeat(x, 0, 32, 5L);
            due(x.count(0, 0), 32);
            x.missing(0);
            due(x.count(0, 0), 33);
            due(full().count(0, 0), 160);
        });
        says("11 How many .. PIECES (1): an OPEN one, too", () -> {
            Store x = new Store();
            x.value(0, 5L);
            due(x.count(0, 1), 1);
            repeat(x, 0, 31, 5L);
            due(x.count(0, 1), 1);
            x.missing(0);
            due(x.count(0, 1), 2);
            due(full().count(0, 1), 5);
        });
        says("11 How many .. MISSING ones (2): of PACKED and OPEN PIECES, as they are", () -> {
            Store x = new Store();
            gaps(x, 0, 34);
            due(x.count(0, 2), 34);
            x.set(0, 0, 1L);
            x.set(0, 33, 1L);
            due(x.count(0, 2), 32);
            x.pack(0);
            due(x.count(0, 2), 32);
            x.set(0, 32, 1L);
            due(x.count(0, 2), 31);
        });
        says("11 How many .. bytes of PACKED PIECES (3): none of an OPEN one", () -> {
            Store x = new Store();
            x.value(0, 5L);
            due(x.count(0, 3), 0);
            repeat(x, 0, 31, 5L);
            due(x.count(0, 3), 7);
            x.value(0, 5L);
            due(x.count(0, 3), 7);
            x.pack(0);
            due(x.count(0, 3), 14);
            x.value(0, 5L);
            due(x.count(0, 3), 7);
        });
        says("11 count: NONE if there is none such", () -> {
            Store x = with(5L);
            for (int c : NO_COLUMNS) {
                for (int what = 0; what < 4; what++) {
                    due(x.count(c, what), NONE);
                }
            }
        });
        says("11 count: NONE .. for others", () -> {
            Store x = with(5L);
            due(x.count(0, 4), NONE);
            for (int what : FAR) {
                due(x.count(0, what), NONE);
            }
        });
    }

    /** Every third row is missing, from row 1 on; 40 rows, of which 32 are packed. */
    private static Store gapped() {
        Store x = new Store();
        for (int i = 0; i < 40; i++) {
            if (i % 3 == 1) {
                x.missing(0);
            } else {
                x.value(0, 10L * i - 100);
            }
        }
        return x;
    }

    private static void hasAndGet() {
        says("12 Whether a ROW has a VALUE (1), or is MISSING (0)", () -> {
            Store x = gapped();
            for (int i = 0; i < 40; i++) {
                due(x.has(0, i), i % 3 == 1 ? 0 : 1);
            }
            x.set(0, 1, 0L);
            due(x.has(0, 1), 1);
        });
        says("12 has: NONE if there is none such: a ROW", () -> {
            Store x = gapped();
            due(x.has(0, 40), NONE);
            due(x.has(1, 0), NONE);
            for (int far : FAR) {
                due(x.has(0, far), NONE);
            }
            due(full().has(0, 160), NONE);
        });
        says("12 has: NONE if there is none such: a COLUMN", () -> {
            Store x = gapped();
            for (int c : NO_COLUMNS) {
                due(x.has(c, 0), NONE);
            }
        });
        says("13 A ROW's VALUE", () -> {
            Store x = gapped();
            for (int i = 0; i < 40; i += 3) {
                due(x.get(0, i), 10L * i - 100);
            }
            x.set(0, 3, LEAST);
            x.set(0, 39, GREATEST);
            due(x.get(0, 3), LEAST);
            due(x.get(0, 39), GREATEST);
        });
        says("13 get: 0 if it is MISSING", () -> {
            Store x = gapped();
            for (int i = 1; i < 40; i += 3) {
                due(x.get(0, i), 0L);
            }
        });
        says("13 get: 0 if .. there is none such", () -> {
            Store x = new Store();
            repeat(x, 0, 40, 7L);
            due(x.get(0, 40), 0L);
            due(x.get(1, 0), 0L);
            for (int far : FAR) {
                due(x.get(0, far), 0L);
            }
            for (int c : NO_COLUMNS) {
                due(x.get(c, 0), 0L);
            }
        });
    }

    private static void piece() {
        says("14 Of a PIECE: 0 ROWS, 1 bytes .., 2 WORK of its bytes .., 3 CHANGES, 4 whether it is OPEN: a"
                + " PACKED one", () -> {
            Store x = new Store();
            repeat(x, 0, 33, 5L);
            int[] due = {32, 7, 32, 0, 0};
            for (int what = 0; what < 5; what++) {
                due(x.piece(0, 0, what), due[what]);
            }
            x.set(0, 0, 6L);
            x.set(0, 1, 6L);
            due(x.piece(0, 0, 3), 2);
            due(x.piece(0, 0, 1), 7);
            due(x.piece(0, 0, 2), 32);
        });
        says("14 Of a PIECE: .. 1 bytes (0 of an OPEN one), 2 WORK .. (NONE of an OPEN one), .. 4 .. OPEN"
                + " (1, 0)", () -> {
            Store x = new Store();
            repeat(x, 0, 33, 5L);
            x.set(0, 32, 6L);
            int[] due = {1, 0, NONE, 0, 1};
            for (int what = 0; what < 5; what++) {
                due(x.piece(0, 1, what), due[what]);
            }
        });
        says("14 piece: NONE if there is none such: a PIECE", () -> {
            Store x = new Store();
            repeat(x, 0, 33, 5L);
            for (int what = 0; what < 5; what++) {
                due(x.piece(0, 2, what), NONE);
                due(x.piece(0, -1, what), NONE);
                due(x.piece(1, 0, what), NONE);
            }
            for (int far : FAR) {
                due(x.piece(0, far, 0), NONE);
            }
            x = full();
            due(x.piece(0, 4, 0), 32);
            due(x.piece(0, 5, 0), NONE);
        });
        says("14 piece: NONE if there is none such: a COLUMN", () -> {
            Store x = with(5L);
            for (int c : NO_COLUMNS) {
                for (int what = 0; what < 5; what++) {
                    due(x.piece(c, 0, what), NONE);
                }
            }
        });
        says("14 piece: NONE .. for others", () -> {
            Store x = packed(5L);
            due(x.piece(0, 0, 5), NONE);
            for (int what : FAR) {
                due(x.piece(0, 0, what), NONE);
            }
            x.value(0, 5L);
            due(x.piece(0, 0, 5), NONE);
            due(x.piece(0, 0, -1), NONE);
        });
    }

    private static void atAndCode() {
        says("15 Byte i of a PACKED PIECE (0 .. 255)", () -> {
            Store x = new Store();
            loaded(x, 0, checked("C1 01 00 00 80 7F FF 00 01 FE 81 C0"));
            int[] due = bytesOf("C1 01 00 00 80 7F FF 00 01 FE 81 C0");
            for (int i = 0; i < due.length; i++) {
                due(x.at(0, 0, i), due[i]);
            }
        });
        says("15 at: NONE if there is none such: a byte", () -> {
            Store x = packed(5L);
            due(x.at(0, 0, 6), checkOf("C1 01 00 01 0A 00"));
            due(x.at(0, 0, 7), NONE);
            due(x.at(0, 0, 299), NONE);
            due(x.at(0, 0, 300), NONE);
            for (int far : FAR) {
                due(x.at(0, 0, far), NONE);
            }
        });
        says("15 at: NONE if there is none such: behind fewer bytes than there were", () -> {
            Store x = with(1L << 60, 0L, 77L);
            x.pack(0);
            int bytes = x.piece(0, 0, 1);
            x.set(0, 0, 0L);
            x.set(0, 2, 0L);
            due(x.pack(0), 7);
            due(x.at(0, 0, 7), NONE);
            due(x.at(0, 0, bytes - 1), NONE);
        });
        says("15 at: NONE if there is none such: a PACKED PIECE", () -> {
            Store x = new Store();
            repeat(x, 0, 33, 5L);
            due(x.at(0, 1, 0), NONE);
            due(x.at(0, 2, 0), NONE);
            due(x.at(0, -1, 0), NONE);
            due(x.at(1, 0, 0), NONE);
            for (int c : NO_COLUMNS) {
                due(x.at(c, 0, 0), NONE);
            }
        });
        says("16 Number i of the CODE by which a PACKED PIECE is written", () -> {
            coded(packed(5L), 0, 1);
            Store x = new Store();
            sowSteps(x, 0);
            coded(x, 0, 3, 2);
            x = new Store();
            loaded(x, 0, checked("C1 02 00 05 02 06 03 01 00 02 04 02"));
            coded(x, 0, 5, 6, 1);
            x = new Store();
            loaded(x, 0, checked("C1 01 00 06 02 06 02 00 00 00 00 00 00 00 00 05"));
            coded(x, 0, 6, 6, 0);
            x = new Store();
            loaded(x, 0, checked("C1 01 00 03 03 02 0A 00 00"));
            coded(x, 0, 3, 3, 2);
            x = new Store();
            loaded(x, 0, checked("C1 01 00 00 00 00 00 00 00 00 00 05"));
            coded(x, 0, 0);
        });
        says("16 code: NONE if there is none such: a number", () -> {
            Store x = new Store();
            sowSteps(x, 0);
            due(x.code(0, 0, 2), NONE);
            due(x.code(0, 0, 3), NONE);
            for (int far : FAR) {
                due(x.code(0, 0, far), NONE);
            }
        });
        says("16 code: NONE if there is none such: a PACKED PIECE", () -> {
            Store x = new Store();
            repeat(x, 0, 33, 5L);
            due(x.code(0, 1, 0), NONE);
            due(x.code(0, 2, 0), NONE);
            due(x.code(0, -1, 0), NONE);
            due(x.code(1, 0, 0), NONE);
            for (int c : NO_COLUMNS) {
                due(x.code(c, 0, 0), NONE);
            }
        });
    }

    private static void front() {
        says("17 The FRONT: pairs .. than which none has fewer of one and not more of the other; how many"
                + " unlike ones", () -> {
            Store x = new Store();
            sowSteps(x, 0);
            due(x.front(0, 0), 3);
            pairs(x, 11, 65, 16, 64, 35, 32);
        });
        says("17 The FRONT: none of those with as many bytes and more WORK; like pairs once", () -> {
            Store x = with(70L, 1L, 1L, 1L, 10000000L, 10000000L, 10000000L, 10000000L);
            due(x.front(0, 0), 2);
            pairs(x, 20, 11, 31, 8);
            x = with(1L << 41);
            due(x.front(0, 0), 1);
            pairs(x, 13, 1);
            x = with(5L, 1000L, 1000L, 5L, 1000L);
            due(x.front(0, 0), 2);
            pairs(x, 13, 7, 14, 5);
        });
        says("17 The FRONT: of many pairs", () -> {
            Store x = new Store();
            x.sow(0, 16, 0, 0L, 1L, 1, 0L);
            x.sow(0, 16, 0, 1000015L, 1000000L, 1, 0L);
            due(x.front(0, 0), 7);
            pairs(x, 16, 98, 21, 71, 23, 70, 24, 68, 26, 67, 88, 64, 103, 32);
        });
        says("17 The FRONT of a PIECE's VALUES, as they are: with CHANGES", () -> {
            Store x = new Store();
            repeat(x, 0, 32, 7L);
            due(x.front(0, 0), 1);
            pairs(x, 7, 32);
            x.set(0, 31, 1000000L);
            due(x.front(0, 0), 2);
            pairs(x, 12, 33, 87, 32);
            due(x.piece(0, 0, 1), 7);
        });
        says("17 The FRONT of a PIECE's VALUES: of an OPEN one", () -> {
            Store x = with(5L, 5L);
            x.missing(0);
            due(x.front(0, 0), 1);
            pairs(x, 8, 2);
            due(x.piece(0, 0, 4), 1);
        });
        says("17 The FRONT .. at the COLUMN's DEPTH: the LIMIT does not matter", () -> {
            Store x = new Store();
            sowSteps(x, 0);
            x.way(0, 0, 1000);
            due(x.front(0, 0), 1);
            pairs(x, 35, 32);
            x.way(0, 1, 32);
            due(x.front(0, 0), 3);
            pairs(x, 11, 65, 16, 64, 35, 32);
        });
        says("17 The FRONT: without a VALUE there is one pair, without WORK", () -> {
            Store x = new Store();
            gaps(x, 0, 33);
            due(x.front(0, 0), 1);
            pairs(x, 9, 0);
            due(x.front(0, 1), 1);
            pairs(x, 6, 0);
        });
        says("17 The FRONT: of one VALUE there is one pair", () -> {
            Store x = with(LEAST);
            due(x.front(0, 0), 1);
            pairs(x, 13, 1);
        });
        says("17 front: NONE if there is none such", () -> {
            Store x = new Store();
            due(x.front(0, 0), NONE);
            repeat(x, 0, 33, 5L);
            due(x.front(0, 2), NONE);
            due(x.front(1, 0), NONE);
            for (int far : FAR) {
                due(x.front(0, far), NONE);
            }
            for (int c : NO_COLUMNS) {
                due(x.front(c, 0), NONE);
            }
        });
    }

    private static void pair() {
        says("18 Pair k (by bytes, the fewest first)", () -> {
            Store x = with();
            for (int i = 0; i < 32; i++) {
                x.value(0, 7L * i * i + i);
            }
            due(x.front(0, 0), 4);
            pairs(x, 14, 98, 25, 96, 44, 64, 59, 32);
        });
        says("18 pair: NONE if there is none such: a pair", () -> {
            Store x = new Store();
            sowSteps(x, 0);
            x.front(0, 0);
            due(x.pair(3, 0), NONE);
            due(x.pair(3, 1), NONE);
            due(x.pair(63, 0), NONE);
            due(x.pair(64, 1), NONE);
            for (int far : FAR) {
                due(x.pair(far, 0), NONE);
                due(x.pair(far, 1), NONE);
            }
        });
        says("18 pair: NONE if there is none such: another what", () -> {
            Store x = new Store();
            sowSteps(x, 0);
            x.front(0, 0);
            due(x.pair(0, 2), NONE);
            for (int far : FAR) {
                due(x.pair(0, far), NONE);
            }
        });
        says("18 pair: NONE ahead of any front()", () -> {
            Store x = new Store();
            due(x.pair(0, 0), NONE);
            due(x.pair(0, 1), NONE);
            sowSteps(x, 0);
            x.pack(0);
            due(x.pair(0, 0), NONE);
            due(x.front(0, 1), NONE);
            due(x.pair(0, 0), NONE);
        });
        says("18 of the latest front() that was not refused", () -> {
            Store x = new Store();
            sowSteps(x, 0);
            x.value(1, 5L);
            x.front(0, 0);
            due(x.front(0, 9), NONE);
            due(x.front(-1, 0), NONE);
            pairs(x, 11, 65, 16, 64, 35, 32);
            due(x.front(1, 0), 1);
            pairs(x, 7, 1);
        });
        says("18 of the latest front(): it stays as it was then", () -> {
            Store x = new Store();
            sowSteps(x, 0);
            x.front(0, 0);
            x.set(0, 0, GREATEST);
            x.way(0, 0, 32);
            x.pack(0);
            x.sow(0, 40, 0, 0L, 77L, 9, 1L);
            loaded(x, 1, THREE);
            x.clear(0);
            pairs(x, 11, 65, 16, 64, 35, 32);
        });
    }

    /** 0 .. 31, 100 .. 131, and an open piece: a missing one, 10, 110, 210, 310. */
    private static Store threePieces() {
        Store x = new Store();
        x.sow(0, 32, 0, 0L, 1L, 1, 0L);
        x.sow(0, 32, 0, 100L, 1L, 1, 0L);
        x.missing(0);
        x.sow(0, 4, 0, 10L, 100L, 1, 0L);
        return x;
    }

    private static void among() {
        says("19 How many VALUES of a COLUMN are from least up to greatest", () -> {
            Store x = threePieces();
            due(x.among(0, 5L, 9L), 5);
            due(x.among(0, 31L, 110L), 1 + 11 + 1);
            due(x.among(0, 40L, 90L), 0);
        });
        says("19 from least up to greatest: both ends are among them", () -> {
            Store x = threePieces();
            due(x.among(0, 310L, 310L), 1);
            due(x.among(0, 0L, 0L), 1);
            due(x.among(0, 131L, 210L), 2);
            due(x.among(0, 132L, 209L), 0);
            due(x.among(0, 30L, 31L), 2);
            due(x.among(0, 32L, 99L), 0);
        });
        says("19 from least up to greatest: all longs", () -> {
            Store x = threePieces();
            due(x.among(0, LEAST, GREATEST), 68);
            x.value(0, LEAST);
            x.value(0, GREATEST);
            due(x.among(0, LEAST, GREATEST), 70);
            due(x.among(0, LEAST, LEAST), 1);
            due(x.among(0, GREATEST, GREATEST), 1);
            due(x.among(0, LEAST, -1L), 1);
            x.pack(0);
            due(x.among(0, LEAST, GREATEST), 70);
            due(x.among(0, LEAST, LEAST), 1);
            due(x.among(0, GREATEST, GREATEST), 1);
            due(x.among(0, LEAST + 1, GREATEST - 1), 68);
        });
        says("19 from least up to greatest: none, if least is above greatest", () -> {
            Store x = threePieces();
            due(x.among(0, 9L, 5L), 0);
            due(x.among(0, GREATEST, LEAST), 0);
            due(x.among(0, 1L, 0L), 0);
        });
        says("19 VALUES: a MISSING ROW is none of them, though 0 is", () -> {
            Store x = new Store();
            gaps(x, 0, 33);
            x.value(0, 0L);
            due(x.among(0, 0L, 0L), 1);
            due(x.among(0, LEAST, GREATEST), 1);
        });
        says("19 VALUES: as they are, with CHANGES", () -> {
            Store x = threePieces();
            x.set(0, 0, 1000L);
            x.set(0, 32, 5L);
            due(x.among(0, 0L, 31L), 31 + 1 + 1);
            due(x.among(0, 100L, 100L), 0);
            due(x.among(0, 1000L, 1000L), 1);
        });
        says("19 among: of a COLUMN without ROWS", () -> due(new Store().among(3, LEAST, GREATEST), 0));
        says("19 among: NONE if there is none such", () -> {
            Store x = threePieces();
            for (int c : NO_COLUMNS) {
                due(x.among(c, LEAST, GREATEST), NONE);
            }
        });
    }

    private static void sum() {
        says("20 The sum of these", () -> {
            Store x = threePieces();
            due(x.sum(0, 5L, 9L), 35);
            due(x.sum(0, 31L, 100L), 131);
            due(x.sum(0, LEAST, GREATEST), 496 + 3696 + 640);
            due(x.sum(0, 310L, 310L), 310);
        });
        says("20 The sum of these (it wraps)", () -> {
            Store x = with(GREATEST, GREATEST, 5L, LEAST);
            due(x.sum(0, 6L, GREATEST), -2L);
            due(x.sum(0, LEAST, 5L), LEAST + 5);
            due(x.sum(0, LEAST, GREATEST), LEAST + 3);
            x.pack(0);
            due(x.sum(0, 6L, GREATEST), -2L);
        });
        says("20 The sum of these: of none it is 0", () -> {
            Store x = threePieces();
            due(x.sum(0, 40L, 90L), 0);
            due(x.sum(0, 9L, 5L), 0);
            due(x.sum(0, GREATEST, LEAST), 0);
            due(x.sum(1, LEAST, GREATEST), 0);
        });
        says("20 The sum of these: as they are, with CHANGES", () -> {
            Store x = threePieces();
            x.set(0, 0, 1000L);
            x.set(0, 1, -5L);
            due(x.sum(0, 31L, 2000L), 31 + 3696 + 630 + 1000);
            due(x.sum(0, LEAST, 2L), 2 - 5);
        });
        says("20 sum: 0 if there is none such", () -> {
            Store x = threePieces();
            for (int c : NO_COLUMNS) {
                due(x.sum(c, LEAST, GREATEST), 0L);
            }
        });
    }

    private static void unpacked(Store x, long least, long greatest, int among, int sum) {
        x.among(0, least, greatest);
        due(x.looked(), among);
        x.sum(0, least, greatest);
        due(x.looked(), sum);
    }

    private static void looked() {
        says("21 looked: 0 ahead of any", () -> {
            Store x = threePieces();
            due(x.looked(), 0);
            x.get(0, 0);
            x.pack(0);
            due(x.looked(), 0);
        });
        says("21 the latest among() or sum() that was not refused", () -> {
            Store x = threePieces();
            x.among(0, 31L, 100L);
            due(x.looked(), 2);
            for (int c : NO_COLUMNS) {
                x.among(c, 0L, 1L);
                due(x.looked(), 2);
                x.sum(c, 0L, 1L);
                due(x.looked(), 2);
            }
            x.get(0, 0);
            x.set(0, 0, 0L);
            x.pack(0);
            due(x.looked(), 2);
            x.sum(1, 0L, 1L);
            due(x.looked(), 0);
            x.sum(0, 5L, 5L);
            due(x.looked(), 1);
            x.among(1, 0L, 1L);
            due(x.looked(), 0);
        });
        says("21 How many PACKED PIECES: none of an OPEN one", () -> {
            Store x = with(1L, 5L, 9L);
            unpacked(x, 5L, 5L, 0, 0);
            x.pack(0);
            unpacked(x, 5L, 5L, 1, 1);
            x.value(0, 5L);
            unpacked(x, 5L, 5L, 0, 0);
        });
        says("21 all: five of five", () -> unpacked(full(), 1L, 30L, 5, 5));
    }

    private static void lookedByEnds() {
        says("21 all but those without a VALUE from least up to greatest by their ends: the greatest is"
                + " below least", () -> {
            Store x = threePieces();
            unpacked(x, 131L, 400L, 1, 1);
            unpacked(x, 132L, 400L, 0, 0);
            unpacked(x, GREATEST, GREATEST, 0, 0);
        });
        says("21 all but those without a VALUE from least up to greatest by their ends: the least is above"
                + " greatest", () -> {
            Store x = threePieces();
            unpacked(x, -5L, 0L, 1, 1);
            unpacked(x, -5L, -1L, 0, 0);
            unpacked(x, LEAST, LEAST, 0, 0);
        });
        says("21 all but those without a VALUE .. by their ends: one without it between its ends is unpacked", () -> {
            Store x = packed(1L, 9L);
            due(x.among(0, 4L, 6L), 0);
            unpacked(x, 4L, 6L, 1, 1);
            unpacked(x, 2L, 8L, 1, 1);
        });
        says("21 and, for among(), those both ends of which are", () -> {
            Store x = threePieces();
            unpacked(x, 0L, 31L, 0, 1);
            unpacked(x, 0L, 131L, 0, 2);
            unpacked(x, LEAST, GREATEST, 0, 2);
        });
        says("21 and, for among(), those both ends of which are: not with one end", () -> {
            Store x = threePieces();
            unpacked(x, 0L, 30L, 1, 1);
            unpacked(x, 1L, 31L, 1, 1);
            unpacked(x, 31L, 100L, 2, 2);
        });
        says("21 those both ends of which are: of one VALUE", () -> {
            Store x = packed(5L);
            unpacked(x, 5L, 5L, 0, 1);
            unpacked(x, 4L, 4L, 0, 0);
            unpacked(x, 6L, 6L, 0, 0);
        });
        says("21 their ends (the least and greatest of their VALUES, as they are): with CHANGES", () -> {
            Store x = threePieces();
            x.set(0, 0, 50L);
            unpacked(x, 0L, 0L, 0, 0);
            unpacked(x, 40L, 60L, 1, 1);
            unpacked(x, 1L, 50L, 0, 1);
            x.set(0, 0, 0L);
            unpacked(x, 32L, 60L, 0, 0);
            unpacked(x, 0L, 31L, 0, 1);
        });
        says("21 their ends: as they are with the 5th CHANGE, with pack(), of a PIECE that was loaded", () -> {
            Store x = new Store();
            x.sow(0, 32, 0, 0L, 1L, 1, 0L);
            for (int i = 0; i < 5; i++) {
                x.set(0, i, 40L + i);
            }
            unpacked(x, 5L, 44L, 0, 1);
            x.set(0, 31, 60L);
            x.pack(0);
            unpacked(x, 61L, 99L, 0, 0);
            unpacked(x, 60L, 99L, 1, 1);
            x.clear(0);
            loaded(x, 0, THREE);
            unpacked(x, 5L, 7L, 0, 1);
            unpacked(x, 8L, 8L, 0, 0);
            unpacked(x, 4L, 4L, 0, 0);
        });
        says("21 those without a VALUE: all ROWS are MISSING", () -> {
            Store x = new Store();
            gaps(x, 0, 32);
            unpacked(x, LEAST, GREATEST, 0, 0);
            unpacked(x, 0L, 0L, 0, 0);
            x.set(0, 7, 9L);
            unpacked(x, 9L, 9L, 0, 1);
            unpacked(x, 0L, 0L, 0, 0);
            x.clear(0);
            x.sow(0, 32, 0, 0L, 1L, 1, 0L);
            x.clear(0);
            gaps(x, 0, 32);
            unpacked(x, 5L, 6L, 0, 0);
        });
        says("21 their ends: those of longs", () -> {
            Store x = packed(LEAST, GREATEST);
            unpacked(x, LEAST, GREATEST, 0, 1);
            unpacked(x, LEAST, GREATEST - 1, 1, 1);
            unpacked(x, LEAST + 1, GREATEST, 1, 1);
            unpacked(x, 0L, 0L, 1, 1);
        });
        says("21 looked: least above greatest, beyond the ends", () -> {
            Store x = threePieces();
            unpacked(x, 200L, 150L, 0, 0);
            unpacked(x, -1L, -2L, 0, 0);
        });
    }

    private static void take() {
        says("22 The tape has a PACKED PIECE's bytes: how many", () -> {
            Store x = new Store();
            repeat(x, 0, 32, 5L);
            due(x.take(0, 0), 7);
            taped(x, 7);
            due(x.load(1), 32);
            due(x.get(1, 31), 5L);
            due(x.piece(0, 0, 1), 7);
        });
        says("22 The tape has a PACKED PIECE's bytes: these alone, whatever it had", () -> {
            Store x = packed(5L);
            lay(x, times(300, "00"));
            due(x.take(0, 0), 7);
            taped(x, 7);
            due(x.feed(0, 0, 0, 0, 0), 27);
            due(x.take(0, 0), 7);
            due(x.load(1), 1);
            rows(x, 1, 5L);
        });
        says("22 The tape has a PACKED PIECE's bytes: of the longest that is packed", () -> {
            Store x = new Store();
            x.way(0, 0, 32);
            for (int i = 0; i < 32; i++) {
                x.value(0, (i + 1) * 0x4123456789ABCDEFL);
            }
            due(x.take(0, 0), 4 + 32 * 8 + 1);
            due(x.load(1), 32);
            due(x.get(1, 31), 32 * 0x4123456789ABCDEFL);
        });
        says("22 take: NONE if there is none such; the tape is as it was", () -> {
            Store x = new Store();
            repeat(x, 0, 33, 5L);
            lay(x, THREE);
            due(x.take(0, 1), NONE);
            due(x.take(0, 2), NONE);
            due(x.take(1, 0), NONE);
            for (int far : FAR) {
                due(x.take(0, far), NONE);
            }
            for (int c : NO_COLUMNS) {
                due(x.take(c, 0), NONE);
            }
            taped(x, 8);
            due(x.load(1), 3);
        });
        says("22 take: NONE if .. it has CHANGES; the tape is as it was", () -> {
            Store x = packed(5L, 6L);
            lay(x, THREE);
            x.set(0, 0, 5L);
            due(x.take(0, 0), NONE);
            taped(x, 8);
            x.pack(0);
            due(x.take(0, 0), 8);
        });
        says("22 take: NONE if .. it has CHANGES: not with the 5th", () -> {
            Store x = full();
            for (int i = 0; i < 4; i++) {
                x.set(0, i, i);
                due(x.take(0, 0), NONE);
                due(x.take(0, 1), 11);
            }
            x.set(0, 4, 4L);
            due(x.take(0, 0), 11);
        });
    }

    private static void load() {
        says("23 The tape (it goes): with its ROWS read, with a FAULT, with -2", () -> {
            Store x = new Store();
            lay(x, THREE);
            due(x.load(0), 3);
            taped(x, 0);
            lay(x, THREE + " 00");
            due(x.load(0), -1);
            taped(x, 0);
            lay(x, THREE);
            due(x.load(4), -2);
            taped(x, 0);
            due(x.load(0), -1);
        });
        says("23 load: -1 with a FAULT: no ROW comes", () -> {
            Store x = packed(9L);
            due(loaded(x, 0, THREE + " 00"), -1);
            due(x.load(0), -1);
            rows(x, 0, 9L);
            due(x.piece(0, 0, 4), 0);
        });
        says("23 load: -1 with a FAULT stands ahead of -2: of a COLUMN that is none", () -> {
            for (int c : NO_COLUMNS) {
                Store x = new Store();
                due(x.load(c), -1);
                faulted(x, 1, 0);
                due(loaded(x, c, "C2 03"), -1);
                faulted(x, 2, 0);
                due(loaded(x, c, checked("C1 01 00 07")), -1);
                faulted(x, 3, 3);
                due(loaded(x, c, THREE + " 00"), -1);
                faulted(x, 4, 8);
            }
        });
        says("23 load: -1 with a FAULT stands ahead of -2: of a full COLUMN", () -> {
            Store x = full();
            due(x.load(0), -1);
            faulted(x, 1, 0);
            due(loaded(x, 0, THREE + " 00"), -1);
            faulted(x, 4, 8);
        });
        says("23 load: -2 there is none such", () -> {
            for (int c : NO_COLUMNS) {
                Store x = new Store();
                due(loaded(x, c, THREE), -2);
                faulted(x, 0, NONE);
                for (int other = 0; other < 4; other++) {
                    due(x.count(other, 0), 0);
                }
            }
        });
        says("23 load: -2 .. there would be more than 160", () -> {
            Store x = new Store();
            x.sow(0, 64, 0, 0L, 1L, 1, 0L);
            x.sow(0, 64, 0, 0L, 1L, 1, 0L);
            x.sow(0, 30, 0, 0L, 1L, 1, 0L);
            due(loaded(x, 0, THREE), -2);
            faulted(x, 0, NONE);
            due(x.count(0, 0), 158);
            due(loaded(x, 0, FIVES), -2);
            due(loaded(x, 0, checked("C1 01 00 01 0A 00")), 159);
            due(loaded(x, 0, checked("C1 02 00 01 0A 00")), -2);
            due(x.piece(0, 4, 4), 1);
            due(x.piece(0, 4, 0), 31);
        });
        says("23 load: -2 .. more than 160: not with 160", () -> {
            Store x = new Store();
            x.sow(0, 64, 0, 0L, 1L, 1, 0L);
            x.sow(0, 64, 0, 0L, 1L, 1, 0L);
            x.sow(0, 29, 0, 0L, 1L, 1, 0L);
            due(loaded(x, 0, THREE), 160);
            due(x.piece(0, 4, 4), 0);
            due(x.get(0, 159), 7L);
            due(loaded(x, 0, checked("C1 01 00 01 0A 00")), -2);
        });
        says("23 load: -2 .. more than 160: five whole PIECES, and no ROW more", () -> {
            Store x = new Store();
            for (int p = 1; p <= 5; p++) {
                due(loaded(x, 0, FIVES), 32 * p);
            }
            due(loaded(x, 0, FIVES), -2);
            due(loaded(x, 0, checked("C1 01 00 01 0A 00")), -2);
            due(x.count(0, 0), 160);
        });
        says("23 load: -2: a short PACKED PIECE stays so", () -> {
            Store x = new Store();
            for (int p = 1; p < 5; p++) {
                loaded(x, 0, FIVES);
            }
            due(loaded(x, 0, THREE), 131);
            due(loaded(x, 0, FIVES), -2);
            due(x.piece(0, 4, 4), 0);
            due(x.piece(0, 4, 1), 8);
        });
    }

    /** Its rows are 10, 16 and a missing one; no way would write it so. */
    private static final String ODD = "C1 03 01 04 03 02 0A 40 00 05 00 00 00 00 00 00 00 01 00 00 00 00 00 00 00";

    private static void loadKeeps() {
        says("23 its ROWS come behind those of the COLUMN: how many ROWS the COLUMN has then", () -> {
            Store x = new Store();
            due(loaded(x, 0, THREE), 3);
            rows(x, 0, 5L, 6L, 7L);
            due(loaded(x, 3, checked(ODD)), 3);
            rows(x, 3, 10L, 16L, null);
        });
        says("23 (these bytes are kept, if the COLUMN's ROWS were whole PIECES: of none", () -> {
            Store x = new Store();
            due(loaded(x, 0, checked(ODD)), 3);
            written(x, 0, ODD);
            coded(x, 0, 3, 2);
            worked(x, 0, 4);
            due(x.piece(0, 0, 0), 3);
            due(x.piece(0, 0, 3), 0);
            due(x.piece(0, 0, 4), 0);
            due(x.count(0, 2), 1);
            due(x.take(0, 0), 26);
        });
        says("23 (these bytes are kept, if the COLUMN's ROWS were whole PIECES: of 32, and of 128", () -> {
            Store x = new Store();
            repeat(x, 0, 32, 5L);
            due(loaded(x, 0, checked(ODD)), 35);
            written(x, 1, ODD);
            due(x.piece(0, 1, 4), 0);
            x.clear(0);
            x.sow(0, 64, 1, 1L, 0L, 1, 0L);
            x.sow(0, 64, 1, 1L, 0L, 1, 0L);
            due(loaded(x, 0, checked(ODD)), 131);
            written(x, 4, ODD);
        });
        says("23 (these bytes are kept: where there was another PIECE, with CHANGES", () -> {
            Store x = packed(1L, 2L, 3L);
            x.set(0, 0, 77L);
            x.clear(0);
            due(loaded(x, 0, THREE), 3);
            due(x.piece(0, 0, 3), 0);
            rows(x, 0, 5L, 6L, 7L);
        });
        says("23 (these bytes are kept: the next ROW opens a short one", () -> {
            Store x = new Store();
            loaded(x, 0, checked(ODD));
            due(x.value(0, 3L), 3);
            due(x.piece(0, 0, 4), 1);
            rows(x, 0, 10L, 16L, null, 3L);
        });
    }

    private static void loadUnpacks() {
        says("23 else each is as by value(), missing(), so that the last PIECE is OPEN again: behind an OPEN"
                + " one", () -> {
            Store x = with(1L);
            due(loaded(x, 0, checked(ODD)), 4);
            rows(x, 0, 1L, 10L, 16L, null);
            due(x.piece(0, 0, 4), 1);
            due(x.piece(0, 0, 1), 0);
        });
        says("23 else each is as by value(), missing(), so that the last PIECE is OPEN again: behind a short"
                + " PACKED one", () -> {
            Store x = new Store();
            loaded(x, 0, checked(ODD));
            due(x.set(0, 1, 7L), 1);
            due(loaded(x, 0, checked(ODD)), 6);
            rows(x, 0, 10L, 7L, null, 10L, 16L, null);
            due(x.piece(0, 0, 4), 1);
            due(x.piece(0, 0, 3), 0);
        });
        says("23 else each is as by value(), missing(): the 32nd ROW packs by THE WAY", () -> {
            Store x = new Store();
            x.way(0, 0, 32);
            repeat(x, 0, 31, 5L);
            due(loaded(x, 0, checked("C1 01 00 03 00 00 00 00 00 00 00 00 05")), 32);
            due(x.piece(0, 0, 4), 0);
            written(x, 0, "C1 20 00 01 0A 00");
        });
        says("23 else each is as by value(), missing(): over a PIECE's end", () -> {
            Store x = new Store();
            repeat(x, 0, 30, 5L);
            due(loaded(x, 0, checked(ODD)), 33);
            due(x.piece(0, 0, 4), 0);
            due(x.piece(0, 0, 0), 32);
            due(x.piece(0, 1, 4), 1);
            due(x.piece(0, 1, 0), 1);
            due(x.get(0, 30), 10L);
            due(x.get(0, 31), 16L);
            due(x.has(0, 32), 0);
        });
        says("23 else each is as by value(), missing(): 32 ROWS behind 31, and behind 1", () -> {
            Store x = new Store();
            repeat(x, 0, 31, 6L);
            due(loaded(x, 0, FIVES), 63);
            due(x.get(0, 30), 6L);
            due(x.get(0, 31), 5L);
            due(x.piece(0, 1, 4), 1);
            due(x.piece(0, 1, 0), 31);
            x.value(1, 6L);
            due(loaded(x, 1, FIVES), 33);
            due(x.piece(1, 0, 4), 0);
            due(x.piece(1, 1, 4), 1);
            due(x.get(1, 32), 5L);
        });
    }

    private static void fault() {
        says("24 Of the latest load(): its FAULT (what 0; .. ), its place (1; ..)", () -> {
            Store x = new Store();
            loaded(x, 0, "C1 02 00 01 00");
            faulted(x, 1, 5);
            loaded(x, 0, "C1 21");
            faulted(x, 2, 1);
            loaded(x, 0, "C1 01 00 07");
            faulted(x, 3, 3);
            loaded(x, 0, THREE + " 00");
            faulted(x, 4, 8);
        });
        says("24 fault: 0 .. ahead of any; its place NONE", () -> {
            Store x = new Store();
            faulted(x, 0, NONE);
            x.value(0, 1L);
            x.pack(0);
            x.get(0, 0);
            faulted(x, 0, NONE);
        });
        says("24 fault: 0 without; its place NONE without: behind one with a FAULT", () -> {
            Store x = new Store();
            loaded(x, 0, "C1 21");
            loaded(x, 0, THREE);
            faulted(x, 0, NONE);
            loaded(x, 0, "C1 21");
            faulted(x, 2, 1);
            loaded(x, 4, THREE);
            faulted(x, 0, NONE);
        });
        says("24 fault: it stays with other calls", () -> {
            Store x = new Store();
            loaded(x, 0, "C1 02 00 01 00");
            x.value(0, 1L);
            x.pack(0);
            x.set(0, 0, 3L);
            x.get(0, 0);
            x.take(0, 0);
            x.feed(1, 2, 3, 4, 5);
            x.end(0);
            x.among(0, 0L, 1L);
            x.front(0, 0);
            x.clear(0);
            faulted(x, 1, 5);
        });
        says("24 fault: NONE for another what", () -> {
            Store x = new Store();
            due(x.fault(2), NONE);
            for (int far : FAR) {
                due(x.fault(far), NONE);
            }
            loaded(x, 0, "C1 21");
            due(x.fault(2), NONE);
            due(x.fault(-1), NONE);
            due(x.fault(3), NONE);
        });
    }

    private static void farNumbers() {
        says("No call throws, for any arguments: the ends of ints and longs in each place", () -> {
            int[] ints = {Integer.MIN_VALUE, -1, 0, 1, 2, Integer.MAX_VALUE};
            long[] longs = {LEAST, -1L, 0L, GREATEST};
            for (int a : ints) {
                for (int b : ints) {
                    for (int c : ints) {
                        Store x = gapped();
                        callEach(x, a, b, c, longs[(a + b + c & 3)]);
                        due("rows", x.count(0, 0) < 0 ? 1 : 0, 0);
                    }
                }
            }
        });
        says("A refused call changes nothing: numbers far out in each place", () -> {
            for (int n : FAR) {
                Store x = new Store();
                repeat(x, 0, 40, 5L);
                x.front(0, 0);
                farCalls(x, n);
                due(x.count(0, 0), 40);
                due(x.count(0, 2), 0);
                due(x.sum(0, LEAST, GREATEST), 200L);
                pairs(x, 7, 32);
            }
        });
    }

    private static void callEach(Store x, int a, int b, int c, long v) {
        x.feed(a, b, c, a, b);
        x.end(a);
        x.load(a);
        x.way(a, b, c);
        x.set(a, b, v);
        x.value(a, v);
        x.missing(a);
        x.sow(a, b, c, v, v, c, v);
        x.pack(a);
        x.count(a, b);
        x.has(a, b);
        x.get(a, b);
        x.piece(a, b, c);
        x.at(a, b, c);
        x.code(a, b, c);
        x.front(a, b);
        x.pair(a, b);
        x.among(a, v, -v);
        x.sum(a, -v, v);
        x.looked();
        x.take(a, b);
        x.load(b);
        x.fault(a);
        x.clear(a);
    }

    private static void farCalls(Store x, int n) {
        no(x.end(n));
        no(x.way(0, n, 100));
        no(x.way(0, 0, n));
        due(x.sow(0, n, 0, n, n, 1, n), NONE);
        due(x.set(0, n, 6L), NONE);
        due(x.count(0, n), NONE);
        due(x.has(0, n), NONE);
        due(x.get(0, n), 0L);
        due(x.piece(0, n, 0), NONE);
        due(x.piece(0, 0, n), NONE);
        due(x.at(0, n, 0), NONE);
        due(x.at(0, 0, n), NONE);
        due(x.code(0, n, 0), NONE);
        due(x.code(0, 0, n), NONE);
        due(x.front(0, n), NONE);
        due(x.pair(n, 0), NONE);
        due(x.pair(0, n), NONE);
        due(x.take(0, n), NONE);
        due(x.fault(n), NONE);
        due(loaded(x, n, THREE), -2);
    }
}
