/** The words in capitals, I to III of the document's terms: each sentence that names a bound has a test of its own. */
public final class TermsTest extends Checks {
    private static final long FAR_UP = 0x7EDCBA9876543210L;
    private static final long FAR_DOWN = -7000000000000000L;

    public static void main(String[] args) {
        whatItIs();
        columnsAndRows();
        piecesAndChanges();
        wrapping();
        varints();
        layings();
        plainAndNarrow();
        patched();
        steps();
        runs();
        lists();
        shares();
        work();
        depths();
        theWay();
        limits();
        bytesOfPieces();
        whenPacked();
        finish();
    }

    private static void whatItIs() {
        says("An object is used for at most 512 calls: the 512th answers, too", TermsTest::lastCallOfAFullStore);
        says("An object is used for at most 512 calls: all of them may pack and load", TermsTest::lastCallOfPacking);
    }

    private static void lastCallOfAFullStore() {
        Store x = new Store();
        for (int c = 0; c < 3; c++) {
            for (int i = 0; i < 160; i++) {
                due(x.value(c, i * FAR_UP), i);
            }
        }
        for (int i = 0; i < 31; i++) {
            due(x.value(3, i), i);
        }
        due("calls", x.calls(), 511);
        due(x.value(3, 31L), 31);
    }

    private static void lastCallOfPacking() {
        Store x = new Store();
        due(x.sow(0, 32, 77, 5L, 3L, 1000, 12345L), 32);
        int bytes = x.piece(0, 0, 1);
        for (int i = 0; i < 102; i++) {
            due(x.take(0, 0), bytes);
            due(x.load(1), 32);
            due(x.pack(1), bytes);
            due(x.clear(1), 32);
            due(x.set(2, 0, 1L), NONE);
        }
        due("calls", x.calls(), 512);
    }

    private static void columnsAndRows() {
        says("I. COLUMNS 0 .. 3: each has rows of its own", () -> {
            Store x = new Store();
            for (int c = 0; c < 4; c++) {
                due(x.value(c, 10L * c), 0);
            }
            for (int c = 0; c < 4; c++) {
                rows(x, c, 10L * c);
            }
        });
        says("I. COLUMNS 0 .. 3: there is none below 0 or above 3, whatever is asked of it", () -> {
            for (int c : NO_COLUMNS) {
                noColumn(c);
            }
        });
        says("I. ROWS (0 .. 159): row 159 is there, row 160 never", () -> {
            Store x = fullOf(5L);
            due(x.count(0, 0), 160);
            due(x.has(0, 159), 1);
            due(x.get(0, 159), 5L);
            due(x.set(0, 159, 6L), 1);
            due(x.get(0, 159), 6L);
            due(x.has(0, 160), NONE);
            due(x.get(0, 160), 0L);
            due(x.set(0, 160, 6L), NONE);
        });
        says("I. each a VALUE (any long) or MISSING", () -> {
            long[] longs = {LEAST, LEAST + 1, -1L, 0L, 1L, GREATEST - 1, GREATEST};
            Store x = new Store();
            for (long v : longs) {
                x.value(0, v);
                x.missing(0);
            }
            Long[] due = {LEAST, null, LEAST + 1, null, -1L, null, 0L, null, 1L, null, GREATEST - 1, null, GREATEST,
                null};
            rows(x, 0, due);
            x.pack(0);
            rows(x, 0, due);
        });
        says("I. ROWS 32 p to 32 p + 31 are PIECE p", () -> {
            Store x = fullOf(5L);
            for (int p = 0; p < 5; p++) {
                due(x.piece(0, p, 3), 0);
                due(x.set(0, 32 * p, 1L), 1);
                due(x.set(0, 32 * p + 31, 1L), 2);
                due(x.piece(0, p, 3), 2);
                due(x.piece(0, p, 0), 32);
            }
        });
    }

    private static Store fullOf(long v) {
        Store x = new Store();
        x.sow(0, 64, 1, v, 0L, 1, 0L);
        x.sow(0, 64, 1, v, 0L, 1, 0L);
        x.sow(0, 32, 1, v, 0L, 1, 0L);
        return x;
    }

    private static void noColumn(int c) {
        Store x = with(5L);
        no(x.way(c, 2, 1000));
        due(x.value(c, 1L), NONE);
        due(x.missing(c), NONE);
        due(x.sow(c, 1, 1, 1L, 1L, 1, 1L), NONE);
        due(x.set(c, 0, 1L), NONE);
        due(x.pack(c), NONE);
        due(x.clear(c), NONE);
        due(x.count(c, 0), NONE);
        due(x.has(c, 0), NONE);
        due(x.get(c, 0), 0L);
        due(x.piece(c, 0, 0), NONE);
        due(x.at(c, 0, 0), NONE);
        due(x.code(c, 0, 0), NONE);
        due(x.front(c, 0), NONE);
        due(x.among(c, LEAST, GREATEST), NONE);
        due(x.sum(c, LEAST, GREATEST), 0L);
        due(x.take(c, 0), NONE);
        due(loaded(x, c, THREE), -2);
        rows(x, 0, 5L);
        for (int other = 1; other < 4; other++) {
            due(x.count(other, 0), 0);
        }
    }

    private static void piecesAndChanges() {
        says("I. The last PIECE is OPEN as long as it has not 32 ROWS", () -> {
            Store x = new Store();
            for (int i = 0; i < 64; i++) {
                x.value(0, i);
                due(x.piece(0, i / 32, 4), i % 32 == 31 ? 0 : 1);
                due(x.count(0, 1), i / 32 + 1);
            }
        });
        says("I. .. and was not packed", () -> {
            for (int n : new int[] {1, 2, 31}) {
                Store x = new Store();
                repeat(x, 0, n, 5L);
                due(x.piece(0, 0, 4), 1);
                x.pack(0);
                due(x.piece(0, 0, 4), 0);
                due(x.piece(0, 0, 0), n);
            }
        });
        says("I. the others are PACKED: by bytes", () -> {
            Store x = new Store();
            repeat(x, 0, 33, 5L);
            due(x.piece(0, 0, 4), 0);
            written(x, 0, "C1 20 00 01 0A 00");
            due(x.piece(0, 1, 4), 1);
            due(x.at(0, 1, 0), NONE);
        });
        says("I. and up to 4 CHANGES", () -> {
            Store x = fullOf(5L);
            for (int i = 0; i < 4; i++) {
                due(x.set(0, 10 + i, 7L), i + 1);
            }
            due(x.piece(0, 0, 3), 4);
            written(x, 0, "C1 20 00 01 0A 00");
            due(x.set(0, 14, 7L), 0);
            due(x.piece(0, 0, 3), 0);
        });
    }

    private static void wrapping() {
        says("I. All sums and differences of VALUES wrap at 64 bits: sum()", () -> {
            Store x = with(GREATEST, 1L);
            due(x.sum(0, LEAST, GREATEST), LEAST);
            x = with(LEAST, -1L);
            due(x.sum(0, LEAST, GREATEST), GREATEST);
            x = fullOf(GREATEST);
            due(x.sum(0, LEAST, GREATEST), -160L);
            x = fullOf(LEAST);
            due(x.sum(0, LEAST, GREATEST), 0L);
        });
        says("I. All sums and differences of VALUES wrap at 64 bits: STEPS", () -> {
            Store x = packed(LEAST, GREATEST);
            written(x, 0, "C1 02 00 03 02 FF FF FF FF FF FF FF FF FF 01 00 01 01 01");
            rows(x, 0, LEAST, GREATEST);
            x = new Store();
            x.sow(0, 32, 0, GREATEST - 9, 1L, 1, 0L);
            due(x.get(0, 9), GREATEST);
            due(x.get(0, 10), LEAST);
            written(x, 0, "C1 20 00 03 02 02 00 01 00 EC FF FF FF FF FF FF FF FF 01");
        });
        says("I. All sums and differences of VALUES wrap at 64 bits: what is read", () -> {
            Store x = new Store();
            due(loaded(x, 0, checked("C1 02 00 03 00 7F FF FF FF FF FF FF FF 00 00 00 00 00 00 00 02")), 2);
            rows(x, 0, GREATEST, LEAST + 1);
            due(loaded(x, 1, checked("C1 01 00 01 FE FF FF FF FF FF FF FF FF 01 02 03")), 1);
            rows(x, 1, LEAST + 2);
            due(loaded(x, 2, checked("C1 01 00 02 FE FF FF FF FF FF FF FF FF 01 01 00 01")), 1);
            rows(x, 2, LEAST);
            due(loaded(x, 3, checked("C1 01 00 06 03 00 7F FF FF FF FF FF FF FF")), 1);
            rows(x, 3, 3 * GREATEST);
        });
    }

    private static void ofOne(long v, String hex) {
        written(packed(0, 1000, v), 0, "C1 01 00 " + hex);
    }

    private static void varints() {
        says("II. A VARINT: seven bits a byte: one byte up to 127, two up to 16383", () -> {
            ofOne(63L, "01 7E 00");
            ofOne(64L, "01 80 01 00");
            ofOne(8191L, "01 FE 7F 00");
            ofOne(8192L, "01 80 80 01 00");
            ofOne((1L << 41) - 1, "01 FE FF FF FF FF 7F 00");
        });
        says("II. a VALUE v as that of 2 v, or of -2 v - 1, if it is below 0", () -> {
            ofOne(0L, "01 00 00");
            ofOne(-1L, "01 01 00");
            ofOne(1L, "01 02 00");
            ofOne(-64L, "01 7F 00");
            ofOne(-65L, "01 81 01 00");
            ofOne(-8192L, "01 FF 7F 00");
            ofOne(-8193L, "01 81 80 01 00");
        });
        says("II. .. (64 bits, without a sign): the ends of longs take ten bytes", () -> {
            written(packed(0, 1000, LEAST, 0L, 0L, 0L), 0, "C1 04 00 02 00 00 01 00 FF FF FF FF FF FF FF FF FF 01");
            written(packed(0, 1000, 0L, 0L, 0L, GREATEST), 0, "C1 04 00 02 00 00 01 03 FE FF FF FF FF FF FF FF FF 01");
            written(packed(0, 1000, 0L, 0L, 0L, 1L << 61), 0, "C1 04 00 02 00 00 01 03 80 80 80 80 80 80 80 80 40");
        });
    }

    private static void layings() {
        says("II. BITS of a number without a sign: how many it takes (0: none)", () -> {
            written(packed(0, 1000, 5L, 5L), 0, "C1 02 00 01 0A 00");
            written(packed(0, 1000, 5L, 6L), 0, "C1 02 00 01 0A 01 02");
            written(packed(0, 1000, 5L, 7L), 0, "C1 02 00 01 0A 02 08");
            written(packed(0, 1000, 5L, 8L), 0, "C1 02 00 01 0A 02 0C");
            written(packed(0, 1000, 5L, 9L), 0, "C1 02 00 01 0A 03 20");
            written(packed(0, 1000, -128L, 127L), 0, "C1 02 00 01 FF 01 08 00 FF");
            written(packed(0, 1000, -128L, 128L), 0, "C1 02 00 01 FF 01 09 00 00 02");
        });
        says("II. A LAYING: one behind the other, each from its lowest bit on, the first bits being the"
                + " lowest ones", () ->
                written(packed(0, 1000, 0L, 7L, 5L, 2L), 0, "C1 04 00 01 00 03 78 05"));
        says("II. A LAYING: filled up with 0s to whole bytes", () -> {
            for (int n : new int[] {2, 7, 8, 9, 15, 16, 17, 31, 32}) {
                Store x = new Store();
                for (int i = 0; i < n; i++) {
                    x.value(0, 2 + i % 2);
                }
                x.pack(0);
                String last = n % 8 == 0 ? "" : hexOf(0xAA & (1 << n % 8) - 1);
                written(x, 0, "C1" + hexOf(n) + "00 01 04 01" + times(n / 8, "AA") + last);
            }
        });
    }

    private static void plainAndNarrow() {
        says("II. A ROW OF VALUES (m of them, 0 .. 32): none", () -> {
            Store x = new Store();
            x.missing(0);
            x.pack(0);
            written(x, 0, "C1 01 01 01 00");
            coded(x, 0, 0);
            worked(x, 0, 0);
        });
        says("II. A ROW OF VALUES (m of them, 0 .. 32): 32", () -> {
            Store x = new Store();
            x.way(0, 0, 32);
            for (int i = 0; i < 32; i++) {
                x.value(0, i % 2 == 0 ? LEAST : GREATEST);
            }
            written(x, 0, "C1 20 00 00" + times(16, "80 00 00 00 00 00 00 00 7F FF FF FF FF FF FF FF"));
            worked(x, 0, 32);
        });
        says("II. 0 PLAIN: each by 8 bytes, the highest first", () ->
                ofOne(0x0123456789ABCDEFL, "00 01 23 45 67 89 AB CD EF"));
        says("II. 1 NARROW: w as a byte: BITS of the greatest less the least: 63 of them", () -> {
            Store x = new Store();
            x.way(0, 0, 1000);
            for (int i = 0; i < 31; i++) {
                x.value(0, GREATEST / 31 * i);
            }
            x.value(0, GREATEST);
            coded(x, 0, 1);
            due(x.piece(0, 0, 1), 3 + 3 + 252 + 1);
            due(x.at(0, 0, 5), 63);
            due(x.at(0, 0, 257), 255);
            due(x.get(0, 31), GREATEST);
            due(x.get(0, 1), GREATEST / 31);
        });
        says("II. 1 NARROW: BITS of the greatest less the least: 64, if that wraps", () -> {
            Store x = packed(0, 1000, LEAST, GREATEST);
            written(x, 0, "C1 02 00 00 80 00 00 00 00 00 00 00 7F FF FF FF FF FF FF FF");
            due(x.front(0, 0), 1);
            pairs(x, 21, 2);
        });
    }

    private static void patched() {
        says("II. 2 PATCHED: VALUES that are not from b up: one below b", () -> {
            Store x = with(-100L);
            for (int i = 1; i < 32; i++) {
                x.value(0, 5 + i % 4);
            }
            written(x, 0, "C1 20 00 02 0A 02 01 00 C7 01" + times(8, "E4"));
            worked(x, 0, 33);
        });
        says("II. 2 PATCHED: up to b + 2 to the w - 1: that one is none of them, the next is (0 for it)", () -> {
            Store x = new Store();
            for (int i = 0; i < 31; i++) {
                x.value(0, i % 4);
            }
            x.value(0, 4L);
            written(x, 0, "C1 20 00 02 00 02 01 1F 08" + times(7, "E4") + " 24");
            worked(x, 0, 33);
        });
        says("II. 2 PATCHED: (as longs, the sum not beyond them)", () -> {
            Store x = new Store();
            x.way(0, 0, 1000);
            x.value(0, LEAST);
            for (int i = 1; i < 32; i++) {
                x.value(0, GREATEST - 2 + i % 3);
            }
            written(x, 0, "C1 20 00 02 FA FF FF FF FF FF FF FF FF 01 02 01 00 FF FF FF FF FF FF FF FF FF 01"
                    + " 24 49 92 24 49 92 24 49");
            due(x.get(0, 0), LEAST);
            due(x.get(0, 31), GREATEST - 1);
        });
        says("II. 2 PATCHED: w as a byte (0 .. 63): no bit for like ones", () -> {
            Store x = new Store();
            repeat(x, 0, 31, 7L);
            x.value(0, 1000000L);
            written(x, 0, "C1 20 00 02 0E 00 01 1F 80 89 7A");
        });
        says("II. 2 PATCHED: b is one of the VALUES, though another has fewer bytes", () ->
                written(packed(0, 1000, 64L, 66L, 64L, 66L, 1000000000000L), 0,
                        "C1 05 00 02 80 01 02 01 04 80 C0 A8 CA 9A 3A 88 00"));
        says("II. 2 PATCHED: of several the least w, though more VALUES are not in it", () -> {
            Store x = new Store();
            for (int i = 0; i < 14; i++) {
                x.value(0, i % 2);
            }
            add(x, 0, 2L, 1000000000000L);
            x.way(0, 0, 1000);
            x.pack(0);
            written(x, 0, "C1 10 00 02 00 01 02 0E 04 0F 80 C0 A8 CA 9A 3A AA 2A");
            worked(x, 0, 18);
        });
        says("II. 2 PATCHED: of several the least w: no bit, of the same b and of a greater one", () -> {
            long far = 1000000000000L;
            written(packed(0, 1000, 0L, 0L, 0L, 0L, 0L, 0L, 3L, far), 0,
                    "C1 08 00 02 00 00 02 06 06 07 80 C0 A8 CA 9A 3A");
            written(packed(0, 1000, -far, 0L, 3L, 3L, 3L, 3L, 3L, 3L), 0,
                    "C1 08 00 02 06 00 02 00 FF BF A8 CA 9A 3A 01 00");
        });
        says("II. 2 PATCHED: of several the least w, then the least b", () -> {
            long v = 1000000000000000L;
            Store x = packed(0, 1000, v, v, -v, -v);
            written(x, 0, "C1 04 00 02 FF FF B3 CC D4 DF C6 03 00 02 00 80 80 B4 CC D4 DF C6 03"
                    + " 01 80 80 B4 CC D4 DF C6 03");
            worked(x, 0, 6);
        });
    }

    private static void steps() {
        says("II. 3 STEPS (m 2 or more): the first VALUE and, for each other one, it less the one ahead of it", () -> {
            Store x = packed(1L << 40, (1L << 40) + 1);
            written(x, 0, "C1 02 00 01 80 80 80 80 80 40 01 02");
            x = packed(1000000000L, 1000000001L, 1000000003L, 1000000006L, 1000000010L, 1000000015L, 1000000021L,
                    1000000028L, 1000000036L, 1000000045L, 1000000055L, 1000000066L, 1000000078L, 1000000091L);
            coded(x, 0, 3, 2);
            written(x, 0, "C1 0E 00 03 02 02 04 01 00 80 A8 D6 B9 07 00 21 43 65 87 A9 CB");
        });
        says("II. 3 STEPS, 4 RUNS, 5 LIST (m 2 or more): not of one VALUE", () -> {
            Store x = packed(1L << 61);
            written(x, 0, "C1 01 00 00 20 00 00 00 00 00 00 00");
            due(x.front(0, 0), 1);
            pairs(x, 13, 1);
        });
    }

    private static void runs() {
        says("II. 4 RUNS: how many runs there are, their VALUES, then by NARROW (its byte 1, too) how long"
                + " they are", () -> {
            Store x = new Store();
            repeat(x, 0, 16, 0x0123456789ABCDEFL);
            repeat(x, 0, 16, FAR_UP);
            written(x, 0, "C1 20 00 04 02 00 01 23 45 67 89 AB CD EF 7E DC BA 98 76 54 32 10 01 20 00");
            worked(x, 0, 32 + 2 + 2);
            x = new Store();
            x.way(0, 1, 1000);
            add(x, 0, FAR_UP);
            repeat(x, 0, 2, FAR_DOWN);
            repeat(x, 0, 29, FAR_UP - 1000003L);
            written(x, 0, "C1 20 00 04 03 00 7E DC BA 98 76 54 32 10 FF E7 21 89 7E 92 80 00 7E DC BA 98 76 44 EF CD"
                    + " 01 02 05 20 70");
            repeat(x, 0, 12, FAR_UP);
            repeat(x, 0, 11, FAR_DOWN);
            repeat(x, 0, 9, FAR_UP - 1000003L);
            written(x, 1, "C1 20 00 04 03 00 7E DC BA 98 76 54 32 10 FF E7 21 89 7E 92 80 00 7E DC BA 98 76 44 EF CD"
                    + " 01 12 02 0B");
        });
        says("II. 4 RUNS: of like VALUES side by side: the same VALUE again is another run", () -> {
            Store x = new Store();
            x.way(0, 1, 1000);
            repeat(x, 0, 11, FAR_UP);
            repeat(x, 0, 10, FAR_DOWN);
            repeat(x, 0, 11, FAR_UP);
            coded(x, 0, 5, 0);
            written(x, 0, "C1 20 00 05 02 00 FF E7 21 89 7E 92 80 00 7E DC BA 98 76 54 32 10 FF 07 E0 FF");
        });
    }

    private static Store listed(int k, long... values) {
        Store x = new Store();
        x.way(0, 1, 1000);
        for (int i = 0; i < 32; i++) {
            x.value(0, values[(i * i + i / 3) % k]);
        }
        return x;
    }

    private static void lists() {
        String far = "FF E7 21 89 7E 92 80 00";
        String three = "FF FF FF FF FF FF FF FD";
        String low = "01 23 45 67 89 AB CD EF";
        String up = "7E DC BA 98 76 54 32 10";
        long[] values = {FAR_DOWN, -3L, 0x0123456789ABCDEFL, FAR_UP, 500000000000000000L};
        says("II. 5 LIST: the LAYING of each one's number in it by BITS of k - 1: 1 of two", () ->
                written(listed(2, values), 0, "C1 20 00 05 02 02 FF FF EB 96 D0 9D EF 18 00 01 01 05 92 24 49 92"));
        says("II. 5 LIST: the LAYING of each one's number in it by BITS of k - 1: 2 of three", () ->
                written(listed(3, values), 0, "C1 20 00 05 03 02 FF FF EB 96 D0 9D EF 18 00 02 01 05"
                        + " 02 DE B7 DE 9A F1 D9 A2 A3 02 54 2A 50 A9 40 A5 02 95"));
        says("II. 5 LIST: the LAYING of each one's number in it by BITS of k - 1: 2 of four", () ->
                written(listed(4, values), 0, "C1 20 00 05 04 00 " + far + three + low + up
                        + " 84 E9 32 84 E9 32 84 E9"));
        says("II. 5 LIST: the LAYING of each one's number in it by BITS of k - 1: 3 of five", () ->
                written(listed(5, values), 0, "C1 20 00 05 05 00 " + far + three + low + "06 F0 5B 59 D3 B2 00 00" + up
                        + " C8 A0 30 19 47 02 19 14 26 E3 48 20"));
        says("II. 5 LIST (m 2 or more): of two like VALUES, by BITS of 0: none", () -> {
            written(packed(LEAST, LEAST), 0, "C1 02 00 05 01 00 80 00 00 00 00 00 00 00");
            written(packed(1L << 62, 1L << 62), 0, "C1 02 00 05 01 00 40 00 00 00 00 00 00 00");
            written(packed((1L << 62) - 1, (1L << 62) - 1), 0, "C1 02 00 01 FE FF FF FF FF FF FF FF 7F 00");
        });
        says("II. 5 LIST: these, rising: those below 0 ahead of the others", () -> {
            Store x = new Store();
            for (int i = 0; i < 16; i++) {
                add(x, 0, FAR_UP, FAR_DOWN);
            }
            written(x, 0, "C1 20 00 05 02 00 " + far + up + times(4, "55"));
            coded(x, 0, 5, 0);
            worked(x, 0, 32 + 2);
        });
    }

    private static void shares() {
        says("II. 6 SHARES: the greatest that divides all", () -> {
            written(packed(30L, -42L, 0L, 18L, 12L, 24L, -6L, 36L), 0, "C1 08 00 06 06 01 0D 04 0C A7 B9 D6");
            written(packed(30000L, -42000L, 0L, 18000L, 12000L, 24000L, -6000L, 36000L), 0,
                    "C1 08 00 06 F0 2E 01 0D 04 0C A7 B9 D6");
        });
        says("II. 6 SHARES: a divisor g (2 or more): 2", () -> {
            Store x = new Store();
            x.way(0, 1, 1000);
            for (int i = 0; i < 32; i++) {
                x.value(0, i * 13 % 32 * 2);
            }
            written(x, 0, "C1 20 00 06 02 01 00 05 A0 E9 43 83 DB A8 8A C7 93 1D B0 AB 4B A2 5F B8 C8 CF B2 99");
            worked(x, 0, 64);
            x.set(0, 1, 25L);
            x.pack(0);
            coded(x, 0, 1);
        });
        says("II. 6 SHARES: a divisor g as VARINT of g itself (no 2 g): the greatest long", () -> {
            Store x = new Store();
            for (int i = 0; i < 32; i++) {
                x.value(0, i % 3 == 0 ? -GREATEST : i * 5 % 7 < 3 ? GREATEST : 0L);
            }
            written(x, 0, "C1 20 00 06 FF FF FF FF FF FF FF FF 7F 01 01 02 14 85 61 28 49 52 14 86");
            due(x.get(0, 0), -GREATEST);
            due(x.get(0, 7), GREATEST);
        });
        says("II. 6 SHARES: (none, if all are 0)", () -> {
            Store x = fullOf(0L);
            written(x, 0, "C1 20 00 01 00 00");
            due(x.front(0, 0), 1);
            pairs(x, 7, 32);
            x = packed(0L);
            written(x, 0, "C1 01 00 01 00 00");
            due(x.front(0, 0), 1);
        });
        says("II. 6 SHARES: (none, if one is the least long)", () -> {
            Store x = quarters(0L);
            written(x, 0, "C1 20 00 06 80 80 80 80 80 80 80 80 40 01 01 02 91 46 19 64 91 46 19 64");
            x = quarters(LEAST);
            written(x, 0, "C1 20 00 04 19 03 02 80 80 80 80 80 80 80 80 80 01 00 01 00 FF FF FF FF FF FF FF FF FF 01"
                    + " 01 02 01 48 92 24 00");
            coded(x, 0, 4, 3, 2);
            x = packed(LEAST);
            written(x, 0, "C1 01 00 00 80 00 00 00 00 00 00 00");
        });
    }

    /** All of them have a divisor of 2 to the 62, if the first is not the least long. */
    private static Store quarters(long first) {
        long[] values = {first, 1L << 62, 0L, -(1L << 62)};
        Store x = new Store();
        for (int i = 0; i < 32; i++) {
            x.value(0, values[(i * 7 + i / 4) % 4]);
        }
        return x;
    }

    private static void works(int work, String hex) {
        Store x = new Store();
        loaded(x, 0, checked(hex));
        worked(x, 0, work);
    }

    private static void work() {
        says("II. Its WORK: PLAIN, NARROW m", () -> {
            works(0, "C1 01 01 01 00");
            works(1, "C1 02 01 01 00 00 00 00 00 00 00 00 05");
            works(3, "C1 03 00 01 0A 02 24");
        });
        says("II. Its WORK: PATCHED m and k", () -> {
            works(3, "C1 03 00 02 0A 02 00 24");
            works(4, "C1 03 00 02 0A 01 01 02 0E 02");
            works(6, "C1 03 00 02 0A 00 03 00 0A 01 0C 02 0E");
        });
        says("II. Its WORK: STEPS m and that of the other TURN", () -> works(2 + 3, "C1 02 00 03 02 0A 00 01 01 00"));
        says("II. Its WORK: SHARES m and that of the other TURN", () ->
                works(2 + 3, "C1 02 00 06 02 02 0A 00 01 01 00"));
        says("II. Its WORK: LIST m, and that of the other TURN", () -> works(5 + 2, "C1 05 00 05 02 01 0A 01 02 15"));
        says("II. Its WORK: RUNS m and that of both rows", () -> {
            works(5 + 2 + 2, "C1 05 00 04 02 01 0A 01 02 01 04 01 02");
            works(5 + (2 + 1) + 2, "C1 05 00 04 02 02 0A 00 01 00 0E 01 04 01 02");
            works(4 + 2 + (2 + 1 + 1), "C1 04 00 04 02 04 01 02 0A 00 00 01 04 00 01 04 00");
        });
    }

    private static Store squares(int depth, int limit) {
        Store x = new Store();
        x.way(0, depth, limit);
        for (int i = 0; i < 32; i++) {
            x.value(0, 7L * i * i + i);
        }
        return x;
    }

    private static void depths() {
        says("II. A WAY at most d deep: PLAIN, NARROW, PATCHED; with d 1 or more also 3 to 6: none with d 0", () -> {
            Store x = squares(0, 1000);
            coded(x, 0, 1);
            due(x.piece(0, 0, 1), 59);
            due(x.front(0, 0), 1);
        });
        says("II. A WAY at most d deep: with a WAY at most d - 1 deep as the other TURN: one with d 1", () -> {
            Store x = squares(1, 1000);
            coded(x, 0, 3, 1);
            due(x.piece(0, 0, 1), 44);
            due(x.front(0, 0), 2);
            pairs(x, 44, 64, 59, 32);
        });
        says("II. for a DEPTH (0 .. 2): two with d 2", () -> {
            Store x = squares(2, 1000);
            written(x, 0, "C1 20 00 03 03 02 1C 00 02 00 00 01 10");
            coded(x, 0, 3, 3, 2);
        });
        says("II. (.. 2 at first; .. 1000 at first)", () -> {
            for (int c = 0; c < 4; c++) {
                Store x = new Store();
                for (int i = 0; i < 32; i++) {
                    x.value(c, 7L * i * i + i);
                }
                due(x.code(c, 0, 0), 3);
                due(x.code(c, 0, 1), 3);
                due(x.code(c, 0, 2), 2);
                due(x.piece(c, 0, 2), 98);
            }
        });
        says("II. without the NARROW of RUNS' lengths, which is not counted as deeper either", () -> {
            Store x = new Store();
            x.way(0, 1, 1000);
            repeat(x, 0, 16, 0x0123456789ABCDEFL);
            repeat(x, 0, 16, FAR_UP);
            coded(x, 0, 4, 0);
            x.way(0, 0, 1000);
            x.pack(0);
            due(x.code(0, 0, 1), NONE);
            due(loaded(x, 1, checked("C1 02 00 03 04 01 01 02 00 01 04 00")), 2);
            due(x.code(1, 0, 0), 3);
            due(x.code(1, 0, 1), 4);
            due(x.code(1, 0, 2), 1);
            due(x.code(1, 0, 3), NONE);
        });
    }

    private static void chosen(int depth, int work, int[] code, long... values) {
        Store x = packed(depth, 1000, values);
        coded(x, 0, code);
        worked(x, 0, work);
    }

    private static void theWay() {
        long million = 10000000L;
        says("II. THE WAY: that with the fewest bytes, though with more WORK", () -> {
            Store x = squares(2, 1000);
            due(x.front(0, 0), 4);
            pairs(x, 14, 98, 25, 96, 44, 64, 59, 32);
            due(x.piece(0, 0, 1), 14);
        });
        says("II. THE WAY: of several with the least WORK, though its number is greater", () -> {
            chosen(2, 11, new int[] {5, 1}, 70L, 1L, 1L, 1L, million, million, million, million);
            chosen(2, 7, new int[] {5, 1}, 70L, 70L, 70L, million, million);
            chosen(1, 12, new int[] {6, 1}, 779L, 741L, 703L, 665L, 627L, 589L);
            chosen(2, 10, new int[] {6, 1}, 0L, 0L, 0L, 1000000L, 2000000L);
        });
        says("II. THE WAY: of these the one with the lesser number where their CODES first differ: at the"
                + " first", () -> {
            ofOne(1L << 41, "00 00 00 02 00 00 00 00 00");
            ofOne(-(1L << 41), "01 FF FF FF FF FF 7F 00");
            ofOne(-(1L << 41) - 1, "00 FF FF FD FF FF FF FF FF");
            chosen(1, 7, new int[] {2}, 5L, 1000L, 1000L, 5L, 1000L);
            chosen(2, 8, new int[] {5, 6, 1}, million, million, 9000L, 9000L);
            chosen(1, 8, new int[] {6, 1}, million, million, 9000L, 9000L);
        });
        says("II. THE WAY: of these the one with the lesser number where their CODES first differ: at the"
                + " second", () -> {
            Store x = new Store();
            int[] times = {4, 3, 3, 6, 4, 4, 3, 1, 4};
            long[] values = {24L, 31L, 32L, 33L, 34L, 41L, 48L, 49L, 50L};
            for (int i = 0; i < times.length; i++) {
                repeat(x, 0, times[i], values[i]);
            }
            written(x, 0, "C1 20 00 03 02 00 01 04 00 30 04 0E 14 0E 18 0E 80 04 01 18");
            worked(x, 0, 68);
        });
    }

    private static void limits() {
        says("II. a LIMIT of WORK: of all WAYS with WORK up to LIMIT: as much as it, and one more", () -> {
            int[][] due = {{1000, 14, 98}, {98, 14, 98}, {97, 25, 96}, {96, 25, 96}, {95, 44, 64}, {64, 44, 64},
                {63, 59, 32}, {33, 59, 32}, {32, 59, 32}};
            for (int[] one : due) {
                Store x = squares(2, one[0]);
                due(x.piece(0, 0, 1), one[1]);
                due(x.piece(0, 0, 2), one[2]);
            }
        });
        says("II. a LIMIT of WORK (32 .. 1000): 32 leaves 32 VALUES a WAY, and no patch", () -> {
            Store x = new Store();
            x.way(0, 2, 32);
            repeat(x, 0, 31, 7L);
            x.value(0, 1000000L);
            coded(x, 0, 1);
            worked(x, 0, 32);
            x.way(0, 2, 33);
            x.pack(0);
            coded(x, 0, 2);
            worked(x, 0, 33);
        });
    }

    private static void bytesOfPieces() {
        says("II. A PIECE's bytes: 193; how many ROWS as a byte: 1 and 32", () -> {
            written(packed(5L), 0, "C1 01 00 01 0A 00");
            written(fullOf(5L), 4, "C1 20 00 01 0A 00");
        });
        says("II. 0, or 1 and the LAYING of all ROWS by 1 bit (1: MISSING) if one is MISSING: 0 without one", () -> {
            Store x = with(5L);
            x.missing(0);
            x.set(0, 1, 5L);
            x.pack(0);
            written(x, 0, "C1 02 00 01 0A 00");
        });
        says("II. 0, or 1 and the LAYING of all ROWS by 1 bit (1: MISSING) if one is MISSING: the first and"
                + " the last", () -> {
            int[] rows = {7, 8, 9, 31, 32};
            String[] due = {"C1 07 01 41", "C1 08 01 81", "C1 09 01 01 01", "C1 1F 01 01 00 00 40",
                "C1 20 01 01 00 00 80"};
            for (int i = 0; i < rows.length; i++) {
                Store x = new Store();
                x.missing(0);
                repeat(x, 0, rows[i] - 2, 5L);
                x.missing(0);
                x.pack(0);
                written(x, 0, due[i] + " 01 0A 00");
                worked(x, 0, rows[i] - 2);
            }
        });
        says("II. the row of all VALUES that are not MISSING: none, if all are", () -> {
            Store x = new Store();
            gaps(x, 0, 32);
            written(x, 0, "C1 20 01 FF FF FF FF 00");
            worked(x, 0, 0);
            due(x.count(0, 2), 32);
        });
        says("II. a CHECK byte: from 7 on, for each byte ahead of it h becomes 31 h and that byte, modulo 256", () -> {
            Store x = packed(5L);
            due(x.piece(0, 0, 1), 7);
            int h = 7;
            for (int b : new int[] {193, 1, 0, 1, 10, 0}) {
                h = (31 * h + b) % 256;
            }
            due(x.at(0, 0, 6), h);
            due(loaded(x, 1, "C1 03 00 01 05 08 01 02 03 55"), 3);
            rows(x, 1, -2L, -1L, 0L);
        });
    }

    private static void whenPacked() {
        says("III. A PIECE is PACKED when it has 32 ROWS: by value(), missing(), sow() and load()", () -> {
            Store x = new Store();
            for (int c = 0; c < 4; c++) {
                x.sow(c, 31, 1, 5L, 0L, 1, 0L);
                due(x.piece(c, 0, 4), 1);
            }
            x.value(0, 5L);
            x.missing(1);
            x.sow(2, 1, 1, 5L, 0L, 1, 0L);
            loaded(x, 3, checked("C1 01 00 01 0A 00"));
            for (int c = 0; c < 4; c++) {
                due(x.piece(c, 0, 0), 32);
                due(x.piece(c, 0, 4), 0);
                due(x.piece(c, 0, 1), c == 1 ? 11 : 7);
            }
        });
        says("III. A PIECE is PACKED when a 5th ROW of it would be CHANGED (its CHANGES in it, then none)", () -> {
            Store x = fullOf(5L);
            for (int i = 0; i < 4; i++) {
                due(x.set(0, 8 * i, 6L), i + 1);
            }
            due(x.set(0, 1, 8L), 0);
            due(x.piece(0, 0, 3), 0);
            written(x, 0, "C1 20 00 02 0A 01 01 01 10 01 01 01 01");
        });
        says("III. A PIECE is PACKED by pack()", () -> {
            Store x = with(5L, 6L, 7L);
            due(x.piece(0, 0, 1), 0);
            due(x.pack(0), 8);
            written(x, 0, "C1 03 00 01 0A 02 24");
        });
        says("III. (with its COLUMN's DEPTH and LIMIT as they are then): not as they are later", () -> {
            Store x = squares(2, 1000);
            x.way(0, 0, 32);
            coded(x, 0, 3, 3, 2);
            x.set(0, 0, 0L);
            coded(x, 0, 3, 3, 2);
        });
        says("III. (with its COLUMN's DEPTH and LIMIT as they are then): with the 32nd ROW", () -> {
            Store x = new Store();
            for (int i = 0; i < 31; i++) {
                x.value(0, 7L * i * i + i);
            }
            x.way(0, 2, 64);
            x.value(0, 7L * 31 * 31 + 31);
            coded(x, 0, 3, 1);
        });
        says("III. (with its COLUMN's DEPTH and LIMIT as they are then): with the 5th CHANGE", () -> {
            Store x = squares(2, 1000);
            for (int i = 0; i < 4; i++) {
                x.set(0, i, 7L * i * i + i);
            }
            coded(x, 0, 3, 3, 2);
            x.way(0, 1, 1000);
            x.set(0, 4, 116L);
            coded(x, 0, 3, 1);
        });
        says("III. (with its COLUMN's DEPTH and LIMIT as they are then): by pack()", () -> {
            Store x = squares(2, 1000);
            x.way(0, 0, 32);
            due(x.pack(0), 59);
            coded(x, 0, 1);
            x.way(0, 2, 98);
            due(x.pack(0), 14);
            coded(x, 0, 3, 3, 2);
        });
    }
}
