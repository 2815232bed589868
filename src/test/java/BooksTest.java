/** Promises 21 to 28: handing on, books, by turns, loudest, drawn. */
public final class BooksTest {
    private static final int BAD = -1, NOT = -2, STATE = -5, VOID = -2000000000;
    private final Check check = new Check();

    private BooksTest() {
    }

    public static void main(String[] args) {
        BooksTest test = new BooksTest();
        test.hand();
        test.handBest();
        test.judge();
        test.keptOn();
        test.keptOnByLaw();
        test.whose();
        test.byTurnsWhether();
        test.byTurnsFirst();
        test.loudest();
        test.drawn();
        test.drawnByHand();
        test.check.end("BooksTest");
    }

    /** On day 15: 17 LINKS of 8 to 10, 3 of 8 to 10, 9 of 9 to 11; on day 5 the first has 10. */
    private static ChainsHold three() {
        ChainsHold x = new ChainsHold();
        x.person(10, 8);
        x.person(3, 8);
        x.person(9, 9);
        x.promise(5, 1020);
        x.promise(2, 1020);
        return x;
    }

    private void hand() {
        check.promise(21);
        ChainsHold x = three();
        check.due("now", x.who(15), 0b100);
        check.due("5 to 1: 12 and 8", x.hand(1, 15), 2);
        check.due("5 to 2", x.hand(2, 15), 0);
        check.due("2 to 1: 15 and 5", x.hand(101, 15), 1);
        check.due("2 to 2: 11 of 9", x.hand(102, 15), 1);
        check.due("not open yet", x.hand(1, 5), 2);
        check.due("nothing changed", x.of(0, 7), 0);
        check.due("to himself", x.hand(0, 15), BAD);
        check.due("to nobody", x.hand(3, 15), BAD);
        check.due("no promise", x.hand(201, 15), BAD);
        check.due("-1", x.hand(-1, 15), BAD);
        check.due("-99", x.hand(-99, 15), BAD);
        check.due("least int", x.hand(Integer.MIN_VALUE, 15), BAD);
        check.due("day 100", x.hand(1, 100), BAD);
        check.due("day -1", x.hand(1, -1), BAD);
        x.mend(0, 6, 2);
        check.due("tied", x.hand(1, 15), STATE);
        check.due("BAD first", x.hand(1, 100), BAD);
        check.due("BAD first", x.hand(0, 15), BAD);
        x.mend(0, 6, -1);
        x.mend(0, 5, 15);
        check.due("kept: 12, 3, 9", x.hand(1, 15), 1);
    }

    private void handBest() {
        check.promise(22);
        ChainsHold x = three();
        check.due("which", x.handBest(15, 0), 1);
        check.due("how many", x.handBest(15, 1), 2);
        check.due("none before they are made", x.handBest(5, 0), NOT);
        check.due("none before they are made", x.handBest(5, 1), NOT);
        x.mend(1, 4, 5);
        x.mend(0, 0, 5);
        check.due("of like ones the least", x.handBest(15, 0), 1);
        x.mend(0, 6, 2);
        // 0 has 15, 2 has 14: handing the other 5 to 1 makes 0 and 1 RIDE
        check.due("tied ones not", x.handBest(15, 0), 101);
        check.due("how many", x.handBest(15, 1), 2);
        x.mend(0, 2, 9);
        check.due("one more only by the handing", x.handBest(15, 1), 2);
        x.mend(1, 6, 2);
        check.due("all tied", x.handBest(15, 0), NOT);
        check.due("what 2", x.handBest(15, 2), BAD);
        check.due("what -1", x.handBest(15, -1), BAD);
        check.due("day 100", x.handBest(100, 0), BAD);
    }

    /** DUE 3, 2 LINKS: from day 4 on it CREAKS 3, 4, 5 .. */
    private static ChainsHold book(int... elements) {
        ChainsHold x = new ChainsHold();
        x.person(0, 9);
        x.person(0, 9);
        x.promise(2, 3);
        x.row(2, 1, elements.length);
        for (int i = 0; i < elements.length; i++) {
            x.put(2, i, elements[i]);
        }
        return x;
    }

    private void judge() {
        check.promise(23);
        ChainsHold x = book(0, 0, 0, 0, 3, 4, 5);
        check.due("so", x.judge(2, 0), NOT);
        check.due("of another", x.judge(2, 1), 4);
        x.put(2, 0, 1);
        check.due("day 0 is not", x.judge(2, 0), 0);
        check.due("nobody's", x.whose(2), 0);
        check.due("no day", x.keptOn(2, 0, 0, 0), 0);
        x.put(2, 0, 0);
        x.put(2, 6, 6);
        check.due("the last is not", x.judge(2, 0), 6);
        x.put(2, 4, -3);
        check.due("the first of two", x.judge(2, 0), 4);
        x.mend(0, 5, 4);
        check.due("kept", x.judge(2, 0), 4);
        x.mend(0, 6, 1);
        x.mend(0, 5, -1);
        x.put(2, 4, 3);
        check.due("those with him", x.judge(2, 1), 6);
        x.row(2, 1, 0);
        check.due("no elements", x.judge(2, 0), NOT);
        check.due("nothing", x.judge(1, 0), -11);
        x.row(1, 0, 3);
        check.due("bytes", x.judge(1, 0), -12);
        x.row(1, 2, 3);
        check.due("ints", x.judge(1, 0), -12);
        x.body(0);
        x.keep(1, 0);
        check.due("a link", x.judge(1, 0), -12);
        check.due("shelf 6", x.judge(6, 0), BAD);
        check.due("shelf -1", x.judge(-1, 0), BAD);
        check.due("one 2", x.judge(1, 2), BAD);
        check.due("BAD first", x.judge(3, -1), BAD);
    }

    private void keptOn() {
        check.promise(24);
        ChainsHold x = book(0, 0, 0, 0, 3, 4, 0);
        check.due("just on day 6", x.keptOn(2, 0, 0, 0), 1);
        check.due("just on day 6", x.keptOn(2, 0, 0, 1), 6);
        check.due("kept stays", x.of(0, 5), -1);
        x.mend(0, 5, 50);
        check.due("kept as it is does not matter", x.keptOn(2, 0, 0, 1), 6);
        check.due("kept stays", x.of(0, 5), 50);
        check.due("no day for another's book", x.keptOn(2, 0, 1, 0), 0);
        check.due("no day for another's book", x.keptOn(2, 0, 1, 1), -9);
        x.put(2, 6, 5);
        // on day 7 or later (93), or never
        check.due("7 .. 99, never", x.keptOn(2, 0, 0, 0), 94);
        check.due("never is least", x.keptOn(2, 0, 0, 1), -1);
        x.row(2, 1, 6);
        check.due("0 .. 4", x.keptOn(2, 0, 0, 0), 5);
        check.due("0", x.keptOn(2, 0, 0, 1), 0);
        x.row(2, 1, 4);
        check.due("any", x.keptOn(2, 0, 0, 0), 101);
        x.promise(13, 0);
        check.due("another one's promise", x.keptOn(2, 1, 0, 0), 101);
        check.due("what 2", x.keptOn(2, 0, 0, 2), VOID);
        check.due("what -1", x.keptOn(2, 0, 0, -1), VOID);
        check.due("promise 2", x.keptOn(2, 2, 0, 0), VOID);
        check.due("one 2", x.keptOn(2, 0, 2, 0), VOID);
        check.due("shelf 6", x.keptOn(6, 0, 0, 0), VOID);
        check.due("nothing", x.keptOn(0, 0, 0, 0), VOID);
        x.row(0, 0, 2);
        check.due("bytes", x.keptOn(0, 0, 0, 0), VOID);
        x.body(0);
        x.keep(0, 0);
        check.due("a link", x.keptOn(0, 0, 0, 0), VOID);
    }

    /** By the law c another PROMISE's being OPEN is heard in the creaks of the first. */
    private void keptOnByLaw() {
        ChainsHold x = new ChainsHold();
        x.person(10, 9);
        x.promise(2, 1);
        x.promise(5, 9);
        x.feed('c');
        x.law();
        x.row(0, 1, 6);
        int[] loud = {0, 0, 17, 17, 12, 12};
        for (int d = 0; d < 6; d++) {
            x.put(0, d, loud[d]);
        }
        check.due("kept on day 4", x.keptOn(0, 1, 0, 1), 4);
        check.due("only then", x.keptOn(0, 1, 0, 0), 1);
    }

    private void whose() {
        check.promise(25);
        ChainsHold x = book(0, 0, 0, 0, 3, 4, 5);
        check.due("his", x.whose(2), 0b01);
        x.mend(0, 6, 1);
        check.due("both", x.whose(2), 0b11);
        x.put(2, 6, 0);
        check.due("nobody's", x.whose(2), 0);
        x.row(2, 1, 4);
        x.person(0, 1);
        check.due("all", x.whose(2), 0b111);
        check.due("nothing", x.whose(0), -11);
        x.row(0, 3, 2);
        check.due("longs", x.whose(0), -12);
        x.body(0);
        x.keep(0, 0);
        check.due("a link", x.whose(0), -12);
        check.due("shelf 6", x.whose(6), BAD);
        check.due("shelf -1", x.whose(-1), BAD);
    }

    private void byTurnsWhether() {
        check.promise(26);
        ChainsHold x = new ChainsHold();
        x.person(0, 10);
        x.person(5, 60);
        x.mend(0, 2, 0);
        x.promise(9, 99);
        x.promise(1, 99);
        x.promise(1, 99);
        // 11 of 10: one turn, he keeps a 1
        check.due("one turn", x.byTurns(0, 1, 0), 1);
        // then friends put one in
        check.due("two turns", x.byTurns(0, 2, 0), 0);
        // he keeps a 1 or none, they put one in or none, he keeps a 1 or none
        check.due("three turns", x.byTurns(0, 3, 0), 1);
        check.due("four turns", x.byTurns(0, 4, 0), 0);
        x.mend(0, 2, 1);
        check.due("slack for one", x.byTurns(0, 2, 0), 1);
        x.mend(0, 2, 0);
        x.mend(2, 5, 0);
        check.due("10: he does nothing", x.byTurns(0, 1, 0), 1);
        check.due("one 1 is too few for six", x.byTurns(0, 6, 0), 0);
        x.promise(12, 99);
        x.mend(3, 6, 0);
        // 12: the 2 is WITH him, he may not keep it
        check.due("those with him not", x.byTurns(0, 1, 0), 0);
        check.due("dn 0", x.byTurns(0, 0, 0), BAD);
        check.due("n 7", x.byTurns(0, 7, 0), BAD);
        check.due("day 100", x.byTurns(0, 1001, 0), BAD);
        check.due("dn -1", x.byTurns(0, -1, 0), BAD);
        check.due("dn -9", x.byTurns(0, -9, 0), BAD);
        check.due("least int", x.byTurns(0, Integer.MIN_VALUE, 0), BAD);
        check.due("what 2", x.byTurns(0, 1, 2), BAD);
        check.due("one 2", x.byTurns(2, 1, 0), BAD);
        check.due("day 99", x.byTurns(0, 991, 0), 0);
    }

    private void byTurnsFirst() {
        ChainsHold x = new ChainsHold();
        x.person(0, 10);
        x.mend(0, 2, 0);
        check.due("nothing to keep", x.byTurns(0, 1, 1), 10);
        x.promise(9, 99);
        x.promise(1, 99);
        check.due("rides by none alone", x.byTurns(0, 1, 1), 10);
        x.promise(1, 99);
        check.due("the least that does", x.byTurns(0, 1, 1), 1);
        check.due("cannot: the least of all", x.byTurns(0, 2, 1), 0);
        x.mend(0, 5, 0);
        check.due("cannot: the least open one", x.byTurns(0, 2, 1), 1);
        x.mend(0, 5, -1);
        // 11 of 10 in three turns: a 1 now, and the other if they put one in; none now leaves 11 or 12
        check.due("three turns", x.byTurns(0, 3, 1), 1);
        x.mend(0, 1, 11);
        x.mend(0, 2, 1);
        check.due("11 of 11 and slack: any 1 spoils nothing", x.byTurns(0, 2, 1), 10);
        x.mend(0, 5, 0);
        x.mend(1, 5, 1);
        x.mend(2, 5, 1);
        check.due("none is open on day 1", x.byTurns(0, 11, 1), 10);
        ChainsHold y = new ChainsHold();
        y.person(10, 10);
        y.mend(0, 2, 1);
        y.promise(3, 99);
        y.promise(4, 99);
        check.due("both must be kept, each once", y.byTurns(0, 3, 1), 0);
        check.due("both must be kept, each once", y.byTurns(0, 3, 0), 1);
        y.mend(0, 1, 11);
        check.due("the 3 twice would do", y.byTurns(0, 3, 0), 0);
    }

    private void loudest() {
        check.promise(27);
        ChainsHold x = new ChainsHold();
        check.due("without promises", x.loudest(0), 0);
        check.due("without promises", x.loudest(1), 0);
        x.person(0, 9);
        x.person(0, 9);
        x.promise(5, 9);
        x.mend(0, 5, 21);
        x.promise(13, 15);
        x.mend(1, 5, 18);
        // on day 17: 8 + 5 and 2 + 3; on day 20: 11 + 5
        check.due("day", x.loudest(0), 17);
        check.due("that", x.loudest(1), 18);
        x.mend(1, 6, 0);
        check.due("each once", x.loudest(1), 18);
        x.feed('7');
        x.law();
        check.due("of like ones the first", x.loudest(0), 16);
        check.due("two of 7", x.loudest(1), 14);
        x.mend(1, 5, -1);
        check.due("still the first", x.loudest(0), 16);
        x.feed('p');
        x.law();
        check.due("1 is louder than nothing", x.loudest(0), 16);
        check.due("1", x.loudest(1), 1);
        x.feed('0');
        x.law();
        check.due("silent", x.loudest(0), 0);
        check.due("silent", x.loudest(1), 0);
        check.due("what 2", x.loudest(2), BAD);
        check.due("what -1", x.loudest(-1), BAD);
    }

    private void drawn() {
        check.promise(28);
        ChainsHold x = new ChainsHold();
        x.person(9, 9);
        check.due("no promises: every day", x.drawn(7, 30, 0, -1), 3000);
        check.due("no promises: every life", x.drawn(7, 30, 0, 50), 30);
        check.due("one life", x.drawn(7, 1, 0, -1), 100);
        check.due("day 99", x.drawn(7, 1, 0, 99), 1);
        check.due("day 0", x.drawn(7, 2, 0, 0), 2);
        check.due("n 0", x.drawn(7, 0, 0, 50), BAD);
        check.due("n 31", x.drawn(7, 31, 0, 50), BAD);
        check.due("one 1", x.drawn(7, 1, 1, 50), BAD);
        check.due("day -2", x.drawn(7, 1, 0, -2), BAD);
        check.due("day 100", x.drawn(7, 1, 0, 100), BAD);
    }

    /** The first draws of SEED 0 are told here by longs, apart from the int arithmetic of the class. */
    private void drawnByHand() {
        ChainsHold x = new ChainsHold();
        x.person(0, 3);
        x.person(0, 4);
        x.promise(3, 5099);
        x.promise(14, 99);
        x.mend(0, 5, 60);
        x.mend(0, 6, 1);
        long z = 0;
        int days = 0;
        int lives = 0;
        for (int life = 0; life < 5; life++) {
            z = (z * 1103515245L + 12345L) & 0xffffffffL;
            long first = (z >> 8) % 100;
            z = (z * 1103515245L + 12345L) & 0xffffffffL;
            long second = (z >> 8) % 100;
            for (int d = 0; d < 100; d++) {
                boolean open0 = d >= 50 && (first < 50 || d < first);
                boolean open1 = d < second;
                int length = (open0 ? 3 : 0) + (open1 ? 4 : 0);
                if (length >= 4 && length <= 6) {
                    days++;
                    lives += d == 30 ? 1 : 0;
                }
            }
        }
        check.due("days", x.drawn(0, 5, 1, -1), days);
        check.due("lives", x.drawn(0, 5, 1, 30), lives);
        check.due("kept stays", x.of(0, 5), 60);
    }
}
