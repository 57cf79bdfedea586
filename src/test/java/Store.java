/** A store as it is tested: it keeps the latest call, to tell of it, and takes no more calls than are promised. */
final class Store {
    static final int MOST_CALLS = 512;
    static String latest = "";

    private final PackedColumns columns = new PackedColumns();
    private int calls = 0;

    private PackedColumns of(String name, long... arguments) {
        StringBuilder text = new StringBuilder(name).append('(');
        for (int i = 0; i < arguments.length; i++) {
            text.append(i == 0 ? "" : ", ").append(arguments[i]);
        }
        latest = text.append(')').toString();
        calls++;
        if (calls > MOST_CALLS) {
            throw new IllegalStateException("the test makes more calls than " + MOST_CALLS);
        }
        return columns;
    }

    int calls() {
        return calls;
    }

    int feed(int a, int b, int c, int d, int e) {
        return of("feed", a, b, c, d, e).feed(a, b, c, d, e);
    }

    boolean end(int n) {
        return of("end", n).end(n);
    }

    boolean way(int column, int depth, int limit) {
        return of("way", column, depth, limit).way(column, depth, limit);
    }

    int value(int column, long v) {
        return of("value", column, v).value(column, v);
    }

    int missing(int column) {
        return of("missing", column).missing(column);
    }

    int sow(int column, int n, int seed, long first, long step, int spread, long by) {
        return of("sow", column, n, seed, first, step, spread, by).sow(column, n, seed, first, step, spread, by);
    }

    int set(int column, int row, long v) {
        return of("set", column, row, v).set(column, row, v);
    }

    int pack(int column) {
        return of("pack", column).pack(column);
    }

    int clear(int column) {
        return of("clear", column).clear(column);
    }

    int count(int column, int what) {
        return of("count", column, what).count(column, what);
    }

    int has(int column, int row) {
        return of("has", column, row).has(column, row);
    }

    long get(int column, int row) {
        return of("get", column, row).get(column, row);
    }

    int piece(int column, int p, int what) {
        return of("piece", column, p, what).piece(column, p, what);
    }

    int at(int column, int p, int i) {
        return of("at", column, p, i).at(column, p, i);
    }

    int code(int column, int p, int i) {
        return of("code", column, p, i).code(column, p, i);
    }

    int front(int column, int p) {
        return of("front", column, p).front(column, p);
    }

    int pair(int k, int what) {
        return of("pair", k, what).pair(k, what);
    }

    int among(int column, long least, long greatest) {
        return of("among", column, least, greatest).among(column, least, greatest);
    }

    long sum(int column, long least, long greatest) {
        return of("sum", column, least, greatest).sum(column, least, greatest);
    }

    int looked() {
        return of("looked").looked();
    }

    int take(int column, int p) {
        return of("take", column, p).take(column, p);
    }

    int load(int column) {
        return of("load", column).load(column);
    }

    int fault(int what) {
        return of("fault", what).fault(what);
    }
}
