/** READING of bytes: each FAULT at its place, from its first to its last wrong byte, and what is read without one. */
public final class ReadingTest extends Checks {
    private static final int LACKS = 1;
    private static final int UNFIT = 2;
    private static final int TURN = 3;
    private static final int CHECK = 4;
    private static final String ONES = " FF FF FF FF FF FF FF FF";
    private static final String MISSING = "C1 01 01 01";
    /** 64 bits and no more: nine bytes with seven each, and one. */
    private static final String LONGEST = " FF FF FF FF FF FF FF FF FF 01";

    /** Rows that are written without a fault: each turn, outermost, in the middle and innermost. */
    private static final String[] SOUND = {
        "C1 01 00 00 80 00 00 00 00 00 00 01", "C1 03 00 01 0A 02 24", "C1 20 00 01 0A 00",
        "C1 02 00 02 0A 01 00 02", "C1 05 00 02 80 01 02 01 04 80 C0 A8 CA 9A 3A 88 00",
        "C1 03 00 02 0A 00 03 00 0A 01 0C 02 0E", "C1 02 00 03 02 0A 00 01 01 00",
        "C1 05 00 04 02 01 0A 01 02 01 04 01 02", "C1 05 00 05 03 01 0A 02 24 06 02",
        "C1 02 00 06 80 01 02 0A 00 01 01 00", "C1 09 01 01 01 01 0A 00", "C1 20 01 FF FF FF FF 00",
        "C1 04 00 04 02 04 01 02 0A 00 00 01 04 00 01 04 00", "C1 04 00 05 02 05 02 01 0A 01 02 01 05",
        "C1 02 00 03 04 01 01 02 00 01 04 00", "C1 03 00 06 05 06 07 01 02 00", "C1 03 00 03 03 01 02 00",
        "C1 02 00 02 00 40 00" + ONES + ONES, "C1 02 00 01" + LONGEST + " 40" + ONES + ONES};

    public static void main(String[] args) {
        lackingBytes();
        frames();
        widths();
        counts();
        places();
        varints();
        divisors();
        lengthsOfRuns();
        numbersInLists();
        turns();
        checks();
        orders();
        within();
        readThough();
        finish();
    }

    /** These bytes, as they are, have this fault; nothing comes into the column. */
    private static void faults(String hex, int kind, int place) {
        Store x = with(9L);
        due(hex, loaded(x, 0, hex), NONE);
        due(hex + ": fault(0)", x.fault(0), kind);
        due(hex + ": fault(1)", x.fault(1), place);
        due(hex + ": rows", x.count(0, 0), 1);
    }

    /** These bytes have this fault, whether the check byte is behind them or lacks. */
    private static void unfit(String hex, int place) {
        faults(checked(hex), UNFIT, place);
        faults(hex, UNFIT, place);
    }

    /** Every byte from least up to most, put behind these, has this fault at it. */
    private static void eachFaults(String ahead, int least, int most, String behind, int kind) {
        for (int b = least; b <= most; b++) {
            faults(checked(ahead + hexOf(b) + " " + behind), kind, bytesOf(ahead).length);
        }
    }

    /** With a check byte behind them they are read as these rows; null is a missing one. */
    private static void reads(String hex, Long... rows) {
        Store x = new Store();
        due(hex, loaded(x, 0, checked(hex)), rows.length);
        faulted(x, 0, NONE);
        rows(x, 0, rows);
        written(x, 0, hex);
    }

    private static void lackingBytes() {
        says("III. 1 a byte lacks, at their length: none is there", () -> {
            Store x = new Store();
            due(x.load(0), NONE);
            faulted(x, LACKS, 0);
        });
        says("III. 1 a byte lacks, at their length: wherever the bytes end", () -> {
            for (String sound : SOUND) {
                int[] bytes = bytesOf(checked(sound));
                String ahead = "";
                for (int i = 0; i < bytes.length; i++) {
                    faults(ahead, LACKS, i);
                    ahead = ahead + hexOf(bytes[i]);
                }
                Store x = new Store();
                due(loaded(x, 0, ahead), bytes[1]);
                faulted(x, 0, NONE);
            }
        });
        says("III. 1 a byte lacks, at their length: also where the 300th of the tape would be the last", () -> {
            String many = "C1 20 00 02" + times(9, "80") + " 00 40 03 00" + LONGEST + " 01" + LONGEST
                    + " 1F 8A 80 80 00" + times(32, ONES);
            due("bytes", bytesOf(checked(many)).length, 300);
            faults(many, LACKS, 299);
            Store x = new Store();
            due(loaded(x, 0, checked(many)), 32);
            due(x.get(0, 1), LEAST);
            due(x.get(0, 30), -1L);
            due(x.get(0, 31), 5L);
            due(x.take(0, 0), 300);
            due(x.load(0), 64);
            due(x.get(0, 63), 5L);
            due(x.at(0, 1, 299), checkOf(many));
        });
    }

    private static void frames() {
        says("III. 2 the first byte is not 193", () -> {
            eachFaults("", 0, 192, "03 00 01 0A 02 24", UNFIT);
            eachFaults("", 194, 255, "03 00 01 0A 02 24", UNFIT);
            faults("00", UNFIT, 0);
        });
        says("III. 2 ROWS not 1 .. 32: 0", () -> {
            unfit("C1 00 00 00", 1);
            faults("C1 00", UNFIT, 1);
        });
        says("III. 2 ROWS not 1 .. 32: 33 and more", () -> {
            eachFaults("C1", 33, 255, "00 01 0A 00", UNFIT);
            faults("C1 21", UNFIT, 1);
        });
        says("III. 2 ROWS not 1 .. 32: 1 and 32 are read", () -> {
            reads("C1 01 00 01 0A 00", 5L);
            Store x = new Store();
            due(loaded(x, 0, FIVES), 32);
        });
        says("III. 2 what is behind them not 0, 1", () -> {
            eachFaults("C1 03", 2, 255, "01 0A 02 24", UNFIT);
            faults("C1 03 02", UNFIT, 2);
        });
    }

    private static void widths() {
        says("III. 2 a w above 64: of NARROW", () -> {
            eachFaults("C1 01 00 01 0A", 65, 255, times(32, "00"), UNFIT);
            faults("C1 01 00 01 0A 41", UNFIT, 5);
            unfit("C1 01 01 01 01 0A 41", 6);
        });
        says("III. 2 a w above 64: of PATCHED", () -> {
            eachFaults("C1 01 00 02 0A", 65, 255, times(32, "00"), UNFIT);
            faults("C1 01 00 02 0A 41", UNFIT, 5);
        });
        says("III. 2 a w above 64: of how long runs are", () -> {
            eachFaults("C1 01 00 04 01 01 0A 00 01 02", 65, 255, times(32, "00"), UNFIT);
            faults("C1 01 00 04 01 01 0A 00 01 02 41", UNFIT, 10);
        });
        says("III. 2 a w above 64: 64 is read", () -> {
            reads("C1 01 00 01 00 40" + ONES, -1L);
            reads("C1 01 00 02 00 40 00" + ONES, -1L);
            reads("C1 01 00 04 01 01 0A 00 01 00 40 01 00 00 00 00 00 00 00", 5L);
        });
    }

    private static void counts() {
        says("III. 2 a k that is none: 0 of RUNS", () -> {
            unfit("C1 02 00 04 00 00 01 00 00", 4);
            faults("C1 02 00 04 00", UNFIT, 4);
        });
        says("III. 2 a k that is none: above m of RUNS", () -> {
            eachFaults("C1 02 00 04", 3, 255, "01 0A 00 01 02 00", UNFIT);
            faults("C1 02 00 04 03", UNFIT, 4);
            unfit("C1 20 00 04 21 01 0A 00 01 02 00", 4);
            unfit("C1 03 01 01 04 03 01 0A 00 01 02 00", 5);
        });
        says("III. 2 a k that is none: 0 of LIST", () -> {
            unfit("C1 02 00 05 00 00", 4);
            faults("C1 02 00 05 00", UNFIT, 4);
        });
        says("III. 2 a k that is none: above m of LIST", () -> {
            eachFaults("C1 02 00 05", 3, 255, "01 0A 00 00", UNFIT);
            faults("C1 02 00 05 03", UNFIT, 4);
            unfit("C1 20 00 05 21 01 0A 00" + times(24, "00"), 4);
        });
        says("III. 2 a k that is none: above m of PATCHED", () -> {
            eachFaults("C1 02 00 02 0A 00", 3, 255, "00 0A 01 0A 02 0A", UNFIT);
            faults("C1 02 00 02 0A 00 03", UNFIT, 6);
        });
        says("III. 2 a k that is none: of PATCHED it may be 0", () -> reads("C1 02 00 02 0A 00 00", 5L, 5L));
        says("III. 2 a k that is none: m is one", () -> {
            reads("C1 02 00 02 0A 00 02 00 0C 01 0E", 6L, 7L);
            reads("C1 02 00 04 02 01 0A 01 02 01 02 00", 5L, 6L);
            reads("C1 02 00 05 02 01 0A 01 02 01", 6L, 5L);
        });
        says("III. 2 a k that is none: the m of a TURN within RUNS or LIST is their k", () -> {
            unfit("C1 04 00 04 02 04 03 01 0A 00 01 02 00 01 04 00", 6);
            unfit("C1 04 00 05 02 05 03 01 0A 00 00", 6);
            unfit("C1 04 00 05 02 02 0A 00 03 00 0A 01 0A 02 0A", 8);
        });
        says("III. 2 a k that is none: without a VALUE RUNS, LIST have none", () -> {
            for (int k = 0; k < 4; k++) {
                unfit(MISSING + " 04" + hexOf(k), 5);
                unfit(MISSING + " 05" + hexOf(k), 5);
                unfit(MISSING + " 03 04" + hexOf(k), 6);
            }
        });
        says("III. 2 a k that is none: without a VALUE PATCHED has 0 alone", () -> {
            reads(MISSING + " 02 0A 05 00", (Long) null);
            eachFaults(MISSING + " 02 0A 00", 1, 255, "00 0A", UNFIT);
        });
    }

    private static void places() {
        says("III. 2 a place not below m", () -> {
            eachFaults("C1 03 00 02 0A 00 01", 3, 255, "0C", UNFIT);
            faults("C1 03 00 02 0A 00 01 03", UNFIT, 7);
            reads("C1 03 00 02 0A 00 01 02 0C", 5L, 5L, 6L);
            reads("C1 03 00 02 0A 00 01 00 0C", 6L, 5L, 5L);
        });
        says("III. 2 a place not below m: m is how many VALUES are not MISSING", () ->
                unfit("C1 03 01 01 02 0A 00 01 02 0C", 8));
        says("III. 2 a place not above the one ahead of it: the same", () -> {
            unfit("C1 03 00 02 0A 00 02 01 0C 01 0E", 9);
            unfit("C1 03 00 02 0A 00 02 00 0C 00 0E", 9);
            faults("C1 03 00 02 0A 00 02 02 80 01 02", UNFIT, 10);
        });
        says("III. 2 a place not above the one ahead of it: below it", () -> {
            unfit("C1 03 00 02 0A 00 02 01 0C 00 0E", 9);
            unfit("C1 03 00 02 0A 00 03 00 0C 02 0E 01 0E", 11);
        });
    }

    /** A VARINT that stands behind these bytes: its last one in 64 bits is 0 or 1. */
    private static void varintBehind(String ahead) {
        int place = bytesOf(ahead).length;
        for (int last = 2; last < 256; last++) {
            faults(checked(ahead + times(9, "FF") + hexOf(last) + times(8, "00")), UNFIT, place);
        }
        faults(ahead + times(9, "80") + " 02", UNFIT, place);
        faults(checked(ahead + times(9, "80") + " 80 00 00 00"), UNFIT, place);
        faults(checked(ahead + times(9, "80") + " 81 00 00 00"), UNFIT, place);
        faults(ahead + times(9, "80"), LACKS, place + 9);
        faults(ahead + " 80", LACKS, place + 1);
    }

    private static void varints() {
        says("III. 2 a VARINT of more than 64 bits: the least of NARROW", () -> varintBehind("C1 01 00 01"));
        says("III. 2 a VARINT of more than 64 bits: the base of PATCHED", () -> varintBehind("C1 01 00 02"));
        says("III. 2 a VARINT of more than 64 bits: a VALUE of PATCHED", () -> varintBehind("C1 02 00 02 0A 00 01 01"));
        says("III. 2 a VARINT of more than 64 bits: a divisor", () -> varintBehind("C1 01 00 06"));
        says("III. 2 a VARINT of more than 64 bits: the least of how long runs are", () ->
                varintBehind("C1 01 00 04 01 01 0A 00 01"));
        says("III. 2 a VARINT of more than 64 bits: 64 are read", () -> {
            reads("C1 01 00 01" + LONGEST + " 00", LEAST);
            reads("C1 01 00 01 FE FF FF FF FF FF FF FF FF 01 00", GREATEST);
            reads("C1 01 00 02" + LONGEST + " 00 00", LEAST);
            reads("C1 02 00 02 0A 00 01 01" + LONGEST, 5L, LEAST);
        });
        says("II. (as few bytes as can be): one with more is read, up to ten", () -> {
            reads("C1 01 00 01 8A 00 00", 5L);
            reads("C1 01 00 01 8A" + times(8, "80") + " 00 00", 5L);
        });
    }

    private static void divisors() {
        says("III. 2 a divisor below 2: 0 and 1, at its first byte", () -> {
            unfit("C1 02 00 06 00 01 0A 00", 4);
            unfit("C1 02 00 06 01 01 0A 00", 4);
            faults("C1 02 00 06 01", UNFIT, 4);
            unfit("C1 02 00 06 80 00 01 0A 00", 4);
            unfit("C1 02 00 06 81 80 00 01 0A 00", 4);
            unfit("C1 02 00 03 06 01 01 0A 00", 5);
            unfit(MISSING + " 06 01 00", 5);
        });
        says("III. 2 a divisor below 2: 2 is read", () -> reads("C1 02 00 06 02 01 0A 01 02", 10L, 12L));
        says("III. 2 a divisor below 2: one of 64 bits without a sign is not", () -> {
            reads("C1 01 00 06" + LONGEST + " 01 0A 00", -5L);
            reads("C1 01 00 06 80 80 80 80 80 80 80 80 80 01 01 06 00", LEAST);
        });
    }

    private static void lengthsOfRuns() {
        String ahead = "C1 03 00 04 02 01 0A 01 02 ";
        says("III. 2 runs that are not m in all: fewer, at the byte 1 of their lengths", () -> {
            unfit(ahead + "01 02 00", 9);
            unfit("C1 20 00 04 01 01 0A 00 01 3E 00", 8);
        });
        says("III. 2 runs that are not m in all: more, at the byte 1 of their lengths", () -> {
            unfit(ahead + "01 04 00", 9);
            unfit("C1 20 00 04 01 01 0A 00 01 42 00", 8);
            unfit(ahead + "01 02 02 08", 9);
        });
        says("III. 2 runs that are not m in all: as many as a long has", () -> {
            unfit("C1 03 00 04 01 01 0A 00 01 FE FF FF FF FF FF FF FF FF 01 00", 8);
            unfit("C1 03 00 04 03 01 0A 00 01 00 40 FF FF FF FF FF FF FF 7F FF FF FF FF FF FF FF 7F"
                    + " 05 00 00 00 00 00 00 00", 8);
            unfit("C1 03 00 04 02 01 0A 00 01 00 40 03 00 00 00 01 00 00 00 00 00 00 00 00 00 00 00", 8);
        });
        says("III. 2 or one below 1: 0, though they are m in all", () -> {
            unfit(ahead + "01 00 02 0C", 9);
            unfit(ahead + "01 00 02 03", 9);
        });
        says("III. 2 or one below 1: below 0, though they are m in all", () -> {
            unfit(ahead + "01 01 03 28", 9);
            unfit("C1 03 00 04 03 01 0A 00 01 00 40" + ONES + " 02 00 00 00 00 00 00 00 02 00 00 00 00 00 00 00", 8);
        });
        says("III. 2 runs: 1 and 31 are read", () -> {
            Store x = new Store();
            due(loaded(x, 0, checked("C1 20 00 04 02 01 0A 01 02 01 02 05 C0 03")), 32);
            due(x.get(0, 0), 5L);
            due(x.get(0, 1), 6L);
            due(x.get(0, 31), 6L);
        });
    }

    private static void numbersInLists() {
        says("III. 2 a number in a LIST not below k: the first, at the first byte of the whole LAYING", () -> {
            unfit("C1 03 00 05 03 01 0A 02 24 03", 9);
            unfit("C1 06 00 05 03 01 0A 02 24 03 00", 9);
        });
        says("III. 2 a number in a LIST not below k: the last, at the first byte of the whole LAYING", () -> {
            unfit("C1 03 00 05 03 01 0A 02 24 30", 9);
            unfit("C1 06 00 05 03 01 0A 02 24 00 0C", 9);
        });
        says("III. 2 a number in a LIST not below k: 31 of 31, and more than k", () -> {
            unfit("C1 20 00 05 1F 01 0A 00 1F" + times(19, "00"), 8);
            unfit("C1 20 00 05 11 01 0A 00" + times(19, "00") + " F8", 8);
            unfit("C1 20 00 05 11 01 0A 00" + times(19, "00") + " 88", 8);
        });
        says("III. 2 a number in a LIST not below k: k - 1 is read", () -> {
            reads("C1 03 00 05 03 01 0A 02 24 2A", 7L, 7L, 7L);
            Store x = new Store();
            due(loaded(x, 0, checked("C1 20 00 05 11 01 0A 00" + times(19, "00") + " 80")), 32);
        });
        says("III. 2 a number in a LIST: what fills the LAYING up is none", () ->
                reads("C1 03 00 05 03 01 0A 02 24 C0", 5L, 5L, 5L));
        says("III. 2 a number in a LIST of one has no bits", () -> reads("C1 03 00 05 01 01 0A 00", 5L, 5L, 5L));
    }

    private static void turns() {
        says("III. 3 a TURN's byte that is none, at it: the outermost", () -> {
            eachFaults("C1 01 00", 7, 255, "0A 00", TURN);
            eachFaults(MISSING, 7, 255, "", TURN);
            faults("C1 01 00 07", TURN, 3);
        });
        says("III. 3 a TURN's byte that is none, at it: the other TURN of each", () -> {
            eachFaults("C1 01 00 03", 7, 255, "0A 00", TURN);
            eachFaults("C1 01 00 04 01", 7, 255, "0A 00 01 02 00", TURN);
            eachFaults("C1 01 00 05 01", 7, 255, "0A 00", TURN);
            eachFaults("C1 01 00 06 02", 7, 255, "0A 00", TURN);
            eachFaults("C1 01 00 03 03", 7, 255, "0A 00", TURN);
        });
        says("III. 3 a TURN more than 3 deep (the outermost one is 1 deep), at it", () -> {
            eachFaults("C1 01 00 03 03 03", 0, 255, "0A 00", TURN);
            eachFaults("C1 01 00 04 01 04 01 04 01", 0, 6, "0A 00", TURN);
            eachFaults("C1 01 00 05 01 05 01 05 01", 0, 6, "0A 00", TURN);
            eachFaults("C1 01 00 06 02 06 02 06 02", 0, 6, "0A 00", TURN);
            eachFaults(MISSING + " 03 06 02 03", 0, 6, "", TURN);
        });
        says("III. 3 a TURN more than 3 deep: what is ahead of it is read first", () -> {
            faults(checked("C1 01 00 03 03 06 01 01 0A 00"), UNFIT, 6);
            faults(checked("C1 01 00 03 03 05 02 01 0A 00"), UNFIT, 6);
            faults("C1 01 00 03 03 06 80", LACKS, 7);
            faults("C1 01 00 03 03 03", LACKS, 6);
        });
        says("III. 3 a TURN more than 3 deep: each that is 3 deep is read", () -> {
            reads("C1 01 00 03 03 00 00 00 00 00 00 00 00 05", 5L);
            reads("C1 02 00 03 03 01 02 00", 1L, 3L);
            reads("C1 02 00 06 02 06 03 02 02 00 01 01 04", 6L, 12L);
        });
        says("III. 3 another byte than 1 at RUNS' lengths, at it", () -> {
            eachFaults("C1 02 00 04 01 01 0A 00", 0, 0, "04 00", TURN);
            eachFaults("C1 02 00 04 01 01 0A 00", 2, 255, "04 00", TURN);
            faults("C1 02 00 04 01 01 0A 00 00", TURN, 8);
        });
        says("III. 3 RUNS' lengths are not counted as deeper", () -> {
            reads("C1 02 00 03 04 01 01 02 00 01 04 00", 1L, 2L);
            reads("C1 04 00 04 02 04 01 02 0A 00 00 01 04 00 01 04 00", 5L, 5L, 5L, 5L);
        });
    }

    private static void checks() {
        says("III. 4 the CHECK byte is another one, at it", () -> {
            String ahead = "C1 03 00 01 0A 02 24";
            for (int b = 0; b < 256; b++) {
                if (b != checkOf(ahead)) {
                    faults(ahead + hexOf(b), CHECK, 7);
                }
            }
        });
        says("III. 4 the CHECK byte is another one: each byte ahead of it is in it", () -> {
            int check = checkOf("C1 03 00 01 0A 02 24");
            faults("C1 03 00 01 0B 02 24" + hexOf(check), CHECK, 7);
            faults("C1 03 00 01 0A 02 25" + hexOf(check), CHECK, 7);
            faults("C1 03 00 01 0A 02 64" + hexOf(check), CHECK, 7);
        });
        says("III. 4 or there is a byte behind it, at that one", () -> {
            for (String sound : SOUND) {
                int bytes = bytesOf(sound).length + 1;
                faults(checked(sound) + " 00", CHECK, bytes);
                faults(checked(sound) + " FF", CHECK, bytes);
            }
            faults(THREE + " 00 00", CHECK, 8);
            faults(THREE + " " + THREE, CHECK, 8);
        });
        says("III. 4 the CHECK byte is another one and there is one behind it: the first", () ->
                faults("C1 03 00 01 0A 02 24" + hexOf(checkOf("C1 03 00 01 0A 02 24") ^ 1) + " 00", CHECK, 7));
    }

    private static void orders() {
        says("III. FAULTS, the first along the bytes", () -> {
            faults("C0 00 02", UNFIT, 0);
            faults("C1 00 02 07", UNFIT, 1);
            faults("C1 01 02 07", UNFIT, 2);
            faults("C1 01 00 07 41", TURN, 3);
            faults("C1 02 00 04 03 07", UNFIT, 4);
            faults("C1 02 00 04 02 07", TURN, 5);
            faults("C1 02 00 02 00 41 03", UNFIT, 5);
            faults("C1 02 00 02 00 40 03 09", UNFIT, 6);
            faults("C1 02 00 04 01 01 00 41 02", UNFIT, 7);
            faults(checked("C1 04 00 05 03 05 03 01 0A 00 3F FF"), UNFIT, 10);
        });
        says("III. FAULTS, the first along the bytes: an inner one ahead of an outer one's last part", () -> {
            unfit("C1 03 00 04 02 05 02 01 0A 00 00 01 00 02 0C", 11);
            unfit("C1 05 00 05 04 04 02 01 0A 00 01 02 00 FF FF", 10);
            unfit("C1 06 00 05 05 05 03 01 0A 00 FF 03 FF FF FF", 10);
        });
    }

    private static void within() {
        says("III. READING: PLAIN behind many bytes", () -> {
            Store x = new Store();
            due(loaded(x, 0, checked("C1 20 01 FE FF FF 7F 00 01 23 45 67 89 AB CD EF FE DC BA 98 76 54 32 10")), 32);
            due(x.get(0, 0), 0x0123456789ABCDEFL);
            due(x.has(0, 1), 0);
            due(x.get(0, 31), 0xFEDCBA9876543210L);
            reads("C1 02 00 06 80 80 80 80 01 03 00 00 00 00 00 00 00 00 05 00 00 00 00 00 00 00 01", 5L << 28, 6L << 28);
        });
        says("III. READING: a TURN in its like", () -> {
            reads("C1 04 00 05 03 05 02 01 0A 01 02 01 24", 6L, 5L, 5L, 6L);
            reads("C1 05 00 04 03 04 02 01 0A 01 02 01 02 01 02 01 02 01 06", 5L, 6L, 6L, 6L, 6L);
            reads("C1 03 00 03 03 01 02 01 04", 1L, 3L, 7L);
            reads("C1 02 00 06 03 06 05 01 02 01 02", 15L, 30L);
        });
        says("III. READING: RUNS in LIST, LIST in RUNS", () -> {
            reads("C1 04 00 05 03 04 02 01 0A 01 02 01 02 01 02 12", 6L, 5L, 6L, 5L);
            reads("C1 05 00 04 03 05 02 01 0A 01 02 02 01 02 01 06", 5L, 6L, 6L, 5L, 5L);
        });
        says("III. READING: PIECES one behind the other, each by itself", () -> {
            Store x = new Store();
            due(loaded(x, 0, checked("C1 04 00 05 02 01 0A 01 02 05")), 4);
            due(loaded(x, 1, checked("C1 03 00 05 02 01 14 01 02 03")), 3);
            due(loaded(x, 2, checked("C1 03 00 04 02 01 28 01 02 01 02 01 02")), 3);
            due(loaded(x, 3, checked("C1 02 00 05 02 01 50 01 02 01")), 2);
            rows(x, 0, 6L, 5L, 6L, 5L);
            rows(x, 1, 11L, 11L, 10L);
            rows(x, 2, 20L, 21L, 21L);
            rows(x, 3, 41L, 40L);
            for (int c = 0; c < 3; c++) {
                due(x.code(c, 0, 1), 1);
                due(x.piece(c, 0, 2), c == 0 ? 6 : c == 1 ? 5 : 7);
            }
        });
        says("III. READING: a PIECE behind bytes with a FAULT", () -> {
            Store x = new Store();
            due(loaded(x, 0, checked("C1 04 00 05 03 01 0A 02 E4 FF")), NONE);
            due(loaded(x, 0, checked("C1 04 00 05 02 01 0A 01 02 05")), 4);
            faulted(x, 0, NONE);
            rows(x, 0, 6L, 5L, 6L, 5L);
        });
    }

    private static void readThough() {
        says("II. 2 PATCHED: w as a byte (0 .. 63): 63 of them, with which no WAY is the best", () -> {
            reads("C1 01 00 02 00 3F 00 FF FF FF FF FF FF FF 7F", GREATEST);
            reads("C1 02 00 02 00 3F 01 01 03 FF FF FF FF FF FF FF 7F 00 00 00 00 00 00 00 00", GREATEST, -2L);
        });
        says("III. What is read need not be THE WAY: PATCHED with w 64", () -> {
            reads("C1 01 00 02 04 40 00" + ONES, 1L);
            reads("C1 02 00 02 04 40 01 01 0A" + ONES + ONES, 1L, 5L);
        });
        says("III. What is read need not be THE WAY: any TURN of few VALUES, too: of one", () -> {
            reads("C1 01 00 02 0A 00 00", 5L);
            reads("C1 01 00 03 01 0A 00", 5L);
            reads("C1 01 00 04 01 01 0A 00 01 02 00", 5L);
            reads("C1 01 00 05 01 01 0A 00", 5L);
            reads("C1 01 00 06 02 01 0A 00", 10L);
        });
        says("III. What is read need not be THE WAY: any TURN of few VALUES, too: of none", () -> {
            reads(MISSING + " 00", (Long) null);
            reads(MISSING + " 01 0A 40", (Long) null);
            reads(MISSING + " 02 0A 40 00", (Long) null);
            reads(MISSING + " 03 00", (Long) null);
            reads(MISSING + " 06 02 00", (Long) null);
            reads(MISSING + " 03 06 02 01 00 00", (Long) null);
        });
        says("III. What is read need not be THE WAY: k of RUNS, LIST is 1 to m", () -> {
            reads("C1 03 00 04 01 01 0A 00 01 06 00", 5L, 5L, 5L);
            reads("C1 03 00 04 03 01 0A 00 01 02 00", 5L, 5L, 5L);
            reads("C1 03 00 05 01 01 0A 00", 5L, 5L, 5L);
            reads("C1 03 00 05 03 01 0A 00 24", 5L, 5L, 5L);
        });
        says("III. What is read need not be THE WAY: a LIST that falls, or is not all used", () ->
                reads("C1 03 00 05 03 02 10 00 01 00 12 04", 9L, 8L, 9L));
        says("III. What is read need not be THE WAY: a base that is no VALUE, bits at a place", () -> {
            reads("C1 02 00 02 C8 01 02 00 0B", 103L, 102L);
            reads("C1 02 00 02 00 01 01 00 0A 03", 5L, 1L);
            reads("C1 02 00 02 00 01 01 00 02 00", 1L, 0L);
        });
        says("III. What is read need not be THE WAY: NARROW with more bits, and a least that is none", () ->
                reads("C1 02 00 01 00 08 05 06", 5L, 6L));
        says("III. What is read need not be THE WAY: 1 though no ROW is MISSING, bits that fill up", () -> {
            reads("C1 02 01 00 01 0A 01 02", 5L, 6L);
            reads("C1 02 01 FC 01 0A 01 FE", 5L, 6L);
            reads("C1 09 01 00 FF 01 0A 00", 5L, 5L, 5L, 5L, 5L, 5L, 5L, 5L, null);
        });
        says("III. What is read need not be THE WAY: a divisor that is not the greatest, of zeros", () -> {
            reads("C1 02 00 06 03 01 04 00", 6L, 6L);
            reads("C1 02 00 06 03 01 00 00", 0L, 0L);
        });
    }
}
