/**
 * What the tests lean on: each test is of one sentence of the document, answers are compared with those that are due,
 * and bytes are told as hex.
 */
abstract class Checks {
    static final int NONE = -1;
    static final long LEAST = Long.MIN_VALUE;
    static final long GREATEST = Long.MAX_VALUE;
    static final int[] NO_COLUMNS = {-1, 4, 5, 255, Integer.MIN_VALUE, Integer.MAX_VALUE};
    static final int[] FAR = {Integer.MIN_VALUE, Integer.MIN_VALUE + 1, -1000000, -160, -32, -1, 1000000,
        Integer.MAX_VALUE - 1, Integer.MAX_VALUE};
    /** A piece of the rows 5, 6, 7. */
    static final String THREE = checked("C1 03 00 01 0A 02 24");
    /** A piece of 32 rows of 5. */
    static final String FIVES = checked("C1 20 00 01 0A 00");

    private static String sentence = "";
    private static int tests = 0;
    private static int answers = 0;
    private static int wrong = 0;

    /** A test of its own: it fails alone, also if something is thrown in it. */
    static void says(String text, Runnable test) {
        sentence = text;
        tests++;
        int before = answers;
        try {
            test.run();
        } catch (RuntimeException | StackOverflowError e) {
            tell(e + " was thrown at " + e.getStackTrace()[0]);
        }
        if (answers == before) {
            tell("nothing was asked");
        }
    }

    static void finish() {
        System.out.println(tests + " tests, " + answers + " answers, "
                + (wrong == 0 ? "all as due" : wrong + " of them wrong"));
        System.exit(wrong == 0 && tests > 0 ? 0 : 1);
    }

    private static void tell(String what) {
        wrong++;
        System.out.println("\"" + sentence + "\": " + what);
    }

    /** The latest call of a store answered this. */
    static void due(long got, long want) {
        due(Store.latest, got, want);
    }

    static void due(String call, long got, long want) {
        answers++;
        if (got != want) {
            tell(call + " answered " + got + ", due is " + want);
        }
    }

    /** But for white space. */
    static void alike(String what, String got, String want) {
        answers++;
        if (!got.replace(" ", "").equals(want.replace(" ", ""))) {
            tell(what + " are " + got + ", due are " + want);
        }
    }

    static void yes(boolean got) {
        due(got ? 1 : 0, 1);
    }

    static void no(boolean got) {
        due(got ? 1 : 0, 0);
    }

    static int[] bytesOf(String hex) {
        String plain = hex.replace(" ", "");
        int[] bytes = new int[plain.length() / 2];
        for (int i = 0; i < bytes.length; i++) {
            bytes[i] = Integer.parseInt(plain.substring(2 * i, 2 * i + 2), 16);
        }
        return bytes;
    }

    static int checkOf(String hex) {
        int h = 7;
        for (int b : bytesOf(hex)) {
            h = (31 * h + b) % 256;
        }
        return h;
    }

    static String hexOf(int b) {
        return String.format(" %02X", b);
    }

    /** With the check byte behind them. */
    static String checked(String hex) {
        return hex + hexOf(checkOf(hex));
    }

    static String times(int n, String hex) {
        return (" " + hex).repeat(n);
    }

    /** The tape has these bytes alone. */
    static void lay(Store x, String hex) {
        int[] bytes = bytesOf(hex);
        x.end(0);
        for (int i = 0; i < bytes.length; i += 20) {
            int[] n = new int[5];
            for (int k = 0; k < 20; k++) {
                n[k / 4] = n[k / 4] << 8 | (i + k < bytes.length ? bytes[i + k] : 0);
            }
            x.feed(n[0], n[1], n[2], n[3], n[4]);
        }
        yes(x.end(bytes.length));
    }

    static int loaded(Store x, int column, String hex) {
        lay(x, hex);
        return x.load(column);
    }

    /** How many bytes the tape has. */
    static void taped(Store x, int bytes) {
        no(x.end(bytes + 1));
        yes(x.end(bytes));
    }

    static Store with(long... values) {
        Store x = new Store();
        add(x, 0, values);
        return x;
    }

    static Store packed(long... values) {
        Store x = with(values);
        x.pack(0);
        return x;
    }

    static Store packed(int depth, int limit, long... values) {
        Store x = with(values);
        x.way(0, depth, limit);
        x.pack(0);
        return x;
    }

    static void add(Store x, int column, long... values) {
        for (long v : values) {
            x.value(column, v);
        }
    }

    static void repeat(Store x, int column, int times, long v) {
        for (int i = 0; i < times; i++) {
            x.value(column, v);
        }
    }

    static void gaps(Store x, int column, int times) {
        for (int i = 0; i < times; i++) {
            x.missing(column);
        }
    }

    /** Piece p of column 0 has these bytes and a check byte behind them. */
    static void written(Store x, int p, String hex) {
        StringBuilder got = new StringBuilder();
        int bytes = x.piece(0, p, 1);
        for (int i = 0; i < bytes; i++) {
            got.append(hexOf(x.at(0, p, i)));
        }
        alike("the bytes of piece " + p, got.toString(), checked(hex));
        due(x.at(0, p, bytes), NONE);
    }

    static void coded(Store x, int p, int... code) {
        for (int i = 0; i < code.length; i++) {
            due(x.code(0, p, i), code[i]);
        }
        due(x.code(0, p, code.length), NONE);
    }

    static void worked(Store x, int p, int work) {
        due(x.piece(0, p, 2), work);
    }

    /** Column c has these rows; null is a missing one. */
    static void rows(Store x, int c, Long... rows) {
        due(x.count(c, 0), rows.length);
        for (int i = 0; i < rows.length; i++) {
            due(x.has(c, i), rows[i] == null ? 0 : 1);
            due(x.get(c, i), rows[i] == null ? 0L : rows[i]);
        }
    }

    /** The pairs of the latest front(), bytes and work by turns. */
    static void pairs(Store x, int... bytesAndWork) {
        int n = bytesAndWork.length / 2;
        for (int k = 0; k < n; k++) {
            due(x.pair(k, 0), bytesAndWork[2 * k]);
            due(x.pair(k, 1), bytesAndWork[2 * k + 1]);
        }
        due(x.pair(n, 0), NONE);
        due(x.pair(n, 1), NONE);
    }

    static void faulted(Store x, int kind, int place) {
        due(x.fault(0), kind);
        due(x.fault(1), place);
    }
}
