/** Promises 37 to 46: bodies, acts, the trace, shelves, rows, counts. */
public final class ShelvesTest {
    private static final int BAD = -1, FULL = -3;
    private final Check check = new Check();

    private ShelvesTest() {
    }

    public static void main(String[] args) {
        ShelvesTest test = new ShelvesTest();
        test.body();
        test.act();
        test.actsOfAll();
        test.trace();
        test.keep();
        test.row();
        test.put();
        test.element();
        test.shift();
        test.shiftRefused();
        test.taken();
        test.count();
        test.check.end("ShelvesTest");
    }

    private void body() {
        check.promise(37);
        ChainsHold x = new ChainsHold();
        check.due("kind -1", x.body(-1), BAD);
        check.due("kind 8", x.body(8), BAD);
        for (int k = 0; k < 50; k++) {
            check.due("body " + k, x.body(k % 8), k);
        }
        check.due("one more", x.body(0), FULL);
        check.due("BAD ahead of FULL", x.body(8), BAD);
        check.due("count", x.count(4), 50);
    }

    /** Bodies 0 .. 7 are of the KINDS 0 .. 7. */
    private static ChainsHold eight() {
        ChainsHold x = new ChainsHold();
        for (int kind = 0; kind < 8; kind++) {
            x.body(kind);
        }
        return x;
    }

    private void act() {
        check.promise(38);
        ChainsHold x = eight();
        check.due("link holds", x.act(0, 0, 5), 5);
        check.due("rust holds", x.act(1, 0, 5), 9);
        check.due("rust rides", x.act(1, 1, 5), 18);
        check.due("tied rides", x.act(2, 1, 5), -14);
        check.due("tied tells: -14 - (1 ^ 2)", x.act(2, 3, 5), -17);
        check.due("piano creaks: (5 ^ 3) * 3", x.act(3, 2, 5), 18);
        check.due("piano rides: -((6 + 3) * 2)", x.act(3, 1, 5), -18);
        check.due("widow creaks: (5 ^ 4) - (2 + 4 + 3)", x.act(4, 2, 5), -8);
        // rides(5) is -(6 + 5) * 2 = -22, creaks(1) is (1 ^ 5) * 3 = 12
        check.due("yard tells: -34 ^ 5", x.act(5, 3, 5), -34 ^ 5);
        check.due("lad holds: (5 + 6) * 2", x.act(6, 0, 5), 22);
        check.due("lad tells: 44 - (1 ^ 6)", x.act(6, 3, 5), 37);
        // holds(5) is 5 + 7 + 3 = 15; creaks(2) is (2 ^ 7) - 12 = -7
        check.due("friend rides: 30 - 7", x.act(7, 1, 5), 23);
        // creaks(1) is (1 ^ 7) - 12 = -6
        check.due("friend tells: 23 + 6 - 1", x.act(7, 3, 5), 28);
        check.due("wraps", x.act(1, 0, Integer.MAX_VALUE), Integer.MIN_VALUE + 3);
        check.due("no body", x.act(8, 0, 5), 0);
        check.due("none ran", x.count(5), 0);
        x.act(7, 3, 5);
        check.due("no body", x.act(-1, 0, 5), 0);
        check.due("none ran", x.count(5), 0);
        x.act(7, 3, 5);
        check.due("no act", x.act(0, 4, 5), 0);
        check.due("none ran", x.trace(0), BAD);
        x.act(7, 3, 5);
        check.due("no act", x.act(0, -1, 5), 0);
        check.due("none ran", x.count(5), 0);
    }

    /** The same KINDS as Java classes know what each body answers. */
    private void actsOfAll() {
        int[] given = {0, 1, -1, 5, 1000003, Integer.MAX_VALUE, Integer.MIN_VALUE};
        for (int kind = 0; kind < 8; kind++) {
            ChainsHold x = new ChainsHold();
            x.body(0);
            x.body(7);
            x.body(kind);
            PlainActs.Link link = PlainActs.make(kind, 2);
            for (int v : given) {
                int[] due = {link.holds(v), link.rides(v), link.creaks(v), link.tells(v)};
                for (int act = 0; act < 4; act++) {
                    check.due("kind " + kind + " act " + act + " of " + v, x.act(2, act, v), due[act]);
                }
            }
        }
    }

    private void ran(ChainsHold x, int... bodies) {
        check.due("how many ran", x.count(5), bodies.length);
        for (int i = 0; i < bodies.length; i++) {
            check.due("trace " + i, x.trace(i), bodies[i]);
        }
        check.due("behind the last", x.trace(bodies.length), BAD);
    }

    private void trace() {
        check.promise(39);
        ChainsHold x = eight();
        check.due("none at first", x.trace(0), BAD);
        x.act(0, 3, 1);
        ran(x, 2, 10, 1, 11);
        x.act(1, 1, 1);
        ran(x, 10, 20, 1);
        x.act(3, 3, 1);
        ran(x, 2, 41, 30, 10, 1, 40, 11);
        x.act(4, 2, 1);
        ran(x, 50, 11, 20, 1);
        x.act(5, 3, 1);
        ran(x, 60, 2, 41, 30, 10, 1, 40, 11);
        x.act(6, 3, 1);
        ran(x, 2, 10, 70, 1, 11);
        x.act(7, 3, 1);
        ran(x, 81, 2, 80, 10, 20, 1, 50, 11, 20, 1, 50, 11, 20, 1);
        check.due("-1", x.trace(-1), BAD);
        check.due("24", x.trace(24), BAD);
        x.body(8);
        ran(x, 81, 2, 80, 10, 20, 1, 50, 11, 20, 1, 50, 11, 20, 1);
    }

    private void keep() {
        check.promise(40);
        ChainsHold x = new ChainsHold();
        check.due("no body", x.keep(0, 0), BAD);
        check.due("nothing", x.keep(0, -1), 1);
        x.body(3);
        check.due("a link", x.keep(5, 0), 1);
        check.due("it is held", x.taken(5, 0), 3);
        check.due("-2", x.keep(5, -2), BAD);
        check.due("1", x.keep(5, 1), BAD);
        check.due("still held", x.taken(5, 0), 3);
        check.due("shelf 6", x.keep(6, 0), BAD);
        check.due("shelf -1", x.keep(-1, -1), BAD);
        check.due("nothing", x.keep(5, -1), 1);
        check.due("nothing", x.taken(5, 0), -11);
        x.row(1, 2, 3);
        x.keep(1, 0);
        check.due("in place of a row", x.put(1, 0, 1), -12);
        x.row(1, 2, 3);
        check.due("in place of a link", x.put(1, 0, 1), 1);
    }

    private void row() {
        check.promise(41);
        ChainsHold x = new ChainsHold();
        check.due("sort -1", x.row(0, -1, 1), BAD);
        check.due("sort 5", x.row(0, 5, 1), BAD);
        check.due("61", x.row(0, 0, 61), BAD);
        check.due("shelf 6", x.row(6, 0, 1), BAD);
        check.due("shelf -1", x.row(-1, 0, 1), BAD);
        check.due("size -1", x.row(0, 0, -1), -14);
        check.due("least int", x.row(0, 0, Integer.MIN_VALUE), -14);
        check.due("BAD ahead of -14", x.row(0, 5, -1), BAD);
        check.due("nothing there still", x.put(0, 0, 1), -11);
        for (int sort = 0; sort < 5; sort++) {
            check.due("sort " + sort, x.row(sort, sort, 60), 1);
            check.due("first", x.element(sort, 0), 0);
            check.due("last", x.element(sort, 59), 0);
            x.put(sort, 59, 1);
        }
        for (int sort = 0; sort < 5; sort++) {
            check.due("each its own", x.element(sort, 59), 1);
            check.due("anew", x.row(sort, sort, 60), 1);
            check.due("0 again", x.element(sort, 59), 0);
        }
        check.due("no elements", x.row(0, 0, 0), 1);
        check.due("no place", x.put(0, 0, 1), -13);
    }

    private void put() {
        check.promise(42);
        ChainsHold x = new ChainsHold();
        long v = 0x1234567890ABCDEFL;
        long[] due = {(byte) 0xEF, (short) 0xCDEF, 0x90ABCDEF, v, 1};
        for (int sort = 0; sort < 5; sort++) {
            x.row(sort, sort, 3);
            check.due("put", x.put(sort, 1, v), 1);
            check.due("lowest bits, sort " + sort, x.element(sort, 1), due[sort]);
            check.due("beside it", x.element(sort, 0) + x.element(sort, 2), 0);
            check.due("-1", x.put(sort, -1, v), -13);
            check.due("3", x.put(sort, 3, v), -13);
        }
        x.put(4, 0, 256);
        check.due("256 is true", x.element(4, 0), 1);
        x.put(4, 0, 0);
        check.due("0 is false", x.element(4, 0), 0);
        x.put(4, 0, 1L << 40);
        check.due("not 0 above the ints", x.element(4, 0), 1);
        x.put(0, 0, 200);
        check.due("a byte of 200", x.element(0, 0), -56);
        check.due("nothing", x.put(5, 0, 1), -11);
        check.due("nothing ahead of no place", x.put(5, -1, 1), -11);
        x.body(0);
        x.keep(5, 0);
        check.due("a link", x.put(5, 0, 1), -12);
        check.due("a link ahead of no place", x.put(5, 60, 1), -12);
        check.due("shelf 6", x.put(6, 0, 1), BAD);
        check.due("shelf -1", x.put(-1, 0, 1), BAD);
        check.due("least int", x.put(0, Integer.MIN_VALUE, 1), -13);
        check.due("greatest int", x.put(0, Integer.MAX_VALUE, 1), -13);
    }

    private void element() {
        check.promise(43);
        ChainsHold x = new ChainsHold();
        long none = Long.MIN_VALUE;
        check.due("nothing", x.element(0, 0), none);
        x.row(0, 3, 2);
        x.put(0, 1, -5);
        check.due("there", x.element(0, 1), -5);
        check.due("2", x.element(0, 2), none);
        check.due("-1", x.element(0, -1), none);
        check.due("greatest int", x.element(0, Integer.MAX_VALUE), none);
        check.due("shelf 6", x.element(6, 0), none);
        check.due("shelf -1", x.element(-1, 0), none);
        x.body(0);
        x.keep(0, 0);
        check.due("a link", x.element(0, 0), none);
    }

    private static ChainsHold twoRows() {
        ChainsHold x = new ChainsHold();
        x.row(0, 2, 6);
        x.row(1, 2, 4);
        for (int i = 0; i < 6; i++) {
            x.put(0, i, i + 1);
        }
        return x;
    }

    private void holds(ChainsHold x, int shelf, int... due) {
        for (int i = 0; i < due.length; i++) {
            check.due("element " + i, x.element(shelf, i), due[i]);
        }
    }

    private void shift() {
        check.promise(44);
        ChainsHold x = twoRows();
        check.due("to another", x.shift(0, 1, 1, 0, 3), 3);
        holds(x, 1, 2, 3, 4, 0);
        check.due("to the same, up", x.shift(0, 0, 0, 2, 4), 4);
        holds(x, 0, 1, 2, 1, 2, 3, 4);
        check.due("to the same, down", x.shift(0, 1, 0, 0, 5), 5);
        holds(x, 0, 2, 1, 2, 3, 4, 4);
        check.due("none", x.shift(0, 0, 1, 0, 0), 0);
        check.due("none at the ends", x.shift(0, 6, 1, 4, 0), 0);
        check.due("all", x.shift(1, 0, 0, 2, 4), 4);
        holds(x, 0, 2, 1, 2, 3, 4, 0);
    }

    private void shiftRefused() {
        ChainsHold x = twoRows();
        int[][] noPlace = {{0, 0, 0, -1}, {0, 0, 0, 5}, {3, 0, 0, 4}, {0, 1, 0, 4}, {-1, 0, 0, 1}, {0, -1, 0, 1}, {7, 0, 0, 0},
            {0, 5, 0, 0}, {Integer.MAX_VALUE, 0, 0, 2}, {0, Integer.MAX_VALUE, 0, 2}, {2, 2, 0, Integer.MAX_VALUE},
            {0, 0, 0, Integer.MIN_VALUE}, {-1, -1, 0, 0}};
        for (int[] p : noPlace) {
            check.due("from " + p[0] + " to " + p[1] + ", " + p[3], x.shift(0, p[0], 1, p[1], p[3]), -13);
        }
        holds(x, 1, 0, 0, 0, 0);
        check.due("nothing there", x.shift(0, 0, 2, 0, 1), -11);
        check.due("nothing there", x.shift(2, 0, 0, 0, 1), -11);
        x.body(0);
        x.keep(3, 0);
        check.due("a link", x.shift(0, 0, 3, 0, 1), -12);
        check.due("a link", x.shift(3, 0, 0, 0, 1), -12);
        check.due("two links", x.shift(3, 0, 3, 0, 1), -12);
        check.due("nothing ahead of a link", x.shift(3, 0, 2, 0, 1), -11);
        x.row(4, 3, 6);
        check.due("unlike sorts", x.shift(0, 0, 4, 0, 1), -12);
        check.due("unlike sorts ahead of no place", x.shift(0, 0, 4, 0, -1), -12);
        check.due("shelf 6", x.shift(0, 0, 6, 0, 1), BAD);
        check.due("shelf -1", x.shift(-1, 0, 0, 0, 1), BAD);
        check.due("BAD ahead of nothing", x.shift(2, 0, 6, 0, 1), BAD);
    }

    private void taken() {
        check.promise(45);
        ChainsHold x = eight();
        int[] above = {-1, 0, 0, 2, 1, 3, 0, 4};
        for (int kind = 0; kind < 8; kind++) {
            x.keep(0, kind);
            for (int k = 0; k < 8; k++) {
                boolean under = false;
                for (int at = kind; at >= 0; at = above[at]) {
                    under |= at == k;
                }
                check.due("kind " + kind + " for " + k, x.taken(0, k), under ? kind : -12);
            }
        }
        check.due("nothing", x.taken(1, 0), -11);
        x.row(1, 0, 1);
        check.due("a row", x.taken(1, 0), -12);
        check.due("k 8", x.taken(0, 8), BAD);
        check.due("k -1", x.taken(0, -1), BAD);
        check.due("shelf 6", x.taken(6, 0), BAD);
        check.due("BAD ahead of nothing", x.taken(2, 8), BAD);
    }

    private void count() {
        check.promise(46);
        ChainsHold x = new ChainsHold();
        x.person(1, 1);
        x.person(1, 1);
        x.promise(1, 1);
        x.feed('1');
        x.feed('2');
        x.feed('3');
        for (int k = 1; k <= 4; k++) {
            x.mend(0, 0, 10 + k);
        }
        for (int k = 0; k < 5; k++) {
            x.body(7);
        }
        x.act(0, 3, 1);
        int[] due = {2, 1, 3, 4, 5, 14};
        for (int what = 0; what < 6; what++) {
            check.due("count(" + what + ")", x.count(what), due[what]);
        }
        x.undo();
        check.due("changes that may be undone", x.count(3), 3);
        check.due("-1", x.count(-1), BAD);
        check.due("6", x.count(6), BAD);
    }
}
