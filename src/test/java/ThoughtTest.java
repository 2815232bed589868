/** Promises 9 to 20: days in thought. */
public final class ThoughtTest {
    private static final int BAD = -1, NOT = -2;
    private final Check check = new Check();

    private ThoughtTest() {
    }

    public static void main(String[] args) {
        ThoughtTest test = new ThoughtTest();
        test.chain();
        test.chainOfTied();
        test.ridesOrNot();
        test.creak();
        test.rides();
        test.ride();
        test.who();
        test.best();
        test.keepBy();
        test.keepAll();
        test.lightest();
        test.ways();
        test.can();
        test.most();
        test.clashes();
        test.check.end("ThoughtTest");
    }

    /** Somebody of BASE 5, ROUND 10, SLACK 2, with 4 LINKS from day 10, DUE on day 20. */
    private static ChainsHold oneWithOne() {
        ChainsHold x = new ChainsHold();
        x.person(5, 10);
        x.promise(4, 1020);
        return x;
    }

    private void chain() {
        check.promise(9);
        ChainsHold x = oneWithOne();
        check.due("day 9", x.chain(0, 9, 0), 5);
        check.due("day 10", x.chain(0, 10, 0), 9);
        check.due("day 99", x.chain(0, 99, 0), 9);
        x.mend(0, 5, 30);
        check.due("day 29", x.chain(0, 29, 0), 9);
        check.due("day 30", x.chain(0, 30, 0), 5);
        check.due("creaks on 29", x.chain(0, 29, 2), 13);
        check.due("creaks on 30", x.chain(0, 30, 2), 0);
        check.due("debt on 20", x.chain(0, 20, 3), 0);
        check.due("debt on 21", x.chain(0, 21, 3), 4);
        check.due("debt on 30", x.chain(0, 30, 3), 0);
        x.mend(0, 5, 10);
        check.due("kept as made", x.chain(0, 10, 0), 5);
        x.mend(0, 5, 3);
        check.due("kept ahead of made", x.chain(0, 50, 0), 5);
        x.promise(7, 1515);
        x.mend(0, 5, -1);
        check.due("two", x.chain(0, 15, 0), 16);
        check.due("creaks of two", x.chain(0, 22, 2), 2 + 4 + 7 + 7);
        check.due("debt of two", x.chain(0, 22, 3), 11);
        check.due("debt of one", x.chain(0, 18, 3), 7);
        check.due("what 4", x.chain(0, 0, 4), BAD);
        check.due("what -1", x.chain(0, 0, -1), BAD);
        check.due("day -1", x.chain(0, -1, 0), BAD);
        check.due("day 100", x.chain(0, 100, 0), BAD);
        check.due("one 1", x.chain(1, 0, 0), BAD);
        check.due("one -1", x.chain(-1, 0, 0), BAD);
    }

    private void chainOfTied() {
        ChainsHold x = oneWithOne();
        x.person(1, 5);
        x.person(2, 9);
        x.mend(0, 6, 1);
        check.due("his", x.chain(0, 15, 0), 9);
        check.due("the other's", x.chain(1, 15, 0), 5);
        check.due("a third's", x.chain(2, 15, 0), 2);
        check.due("the other rides", x.chain(1, 15, 1), 1);
        check.due("the other's creaks", x.chain(1, 25, 2), 9);
        check.due("the other's debt", x.chain(1, 25, 3), 4);
        check.due("a third's debt", x.chain(2, 25, 3), 0);
    }

    private void ridesOrNot() {
        ChainsHold x = new ChainsHold();
        x.person(9, 10);
        int[] due = {0, 1, 1, 1, 0};
        for (int base = 9; base <= 13; base++) {
            x.mend(0, 0, base);
            check.due("base " + base, x.chain(0, 50, 1), due[base - 9]);
        }
        x.mend(0, 2, 3);
        check.due("more slack", x.chain(0, 50, 1), 1);
        x.mend(0, 2, 0);
        x.mend(0, 0, 10);
        check.due("no slack", x.chain(0, 50, 1), 1);
        x.mend(0, 0, 11);
        check.due("no slack", x.chain(0, 50, 1), 0);
    }

    private void creak() {
        check.promise(10);
        ChainsHold x = oneWithOne();
        x.promise(9, 0);
        check.due("ahead of made", x.creak(0, 5), 0);
        check.due("due", x.creak(0, 20), 0);
        check.due("over due", x.creak(0, 21), 5);
        check.due("day 99", x.creak(0, 99), 83);
        check.due("held within 99", x.creak(1, 99), 99);
        check.due("90 days over", x.creak(1, 90), 99);
        check.due("89 days over", x.creak(1, 89), 98);
        x.mend(0, 5, 40);
        check.due("kept later", x.creak(0, 39), 23);
        check.due("kept", x.creak(0, 40), 0);
        check.due("promise 2", x.creak(2, 0), BAD);
        check.due("promise -1", x.creak(-1, 0), BAD);
        check.due("day 100", x.creak(0, 100), BAD);
        check.due("day -1", x.creak(0, -1), BAD);
    }

    /** RIDES on days 10 .. 19 and 30 .. 49 and 60 .. 79. */
    private static ChainsHold threeRides() {
        ChainsHold x = new ChainsHold();
        x.person(0, 5);
        x.promise(5, 1010);
        x.mend(0, 5, 20);
        x.promise(6, 3030);
        x.mend(1, 5, 50);
        x.promise(7, 6060);
        x.mend(2, 5, 80);
        return x;
    }

    private void rides() {
        check.promise(11);
        ChainsHold x = threeRides();
        check.due("all", x.rides(0, 0, 99), 50);
        check.due("some", x.rides(0, 19, 30), 2);
        check.due("one day", x.rides(0, 19, 19), 1);
        check.due("none", x.rides(0, 20, 29), 0);
        check.due("first from 0", x.rides(0, 0, -1), 10);
        check.due("first from 15", x.rides(0, 15, -1), 15);
        check.due("first from 20", x.rides(0, 20, -1), 30);
        check.due("first from 80", x.rides(0, 80, -1), NOT);
        check.due("first from 99", x.rides(0, 99, -1), NOT);
        check.due("b less", x.rides(0, 19, 18), BAD);
        check.due("b -2", x.rides(0, 0, -2), BAD);
        check.due("b 100", x.rides(0, 0, 100), BAD);
        check.due("a -1", x.rides(0, -1, 5), BAD);
        check.due("a 100", x.rides(0, 100, -1), BAD);
        check.due("one 1", x.rides(1, 0, 5), BAD);
    }

    private void ride() {
        check.promise(12);
        ChainsHold x = threeRides();
        check.due("longest", x.ride(0, 0), 20);
        check.due("of like ones the first", x.ride(0, 1), 30);
        x.mend(2, 5, 81);
        check.due("longer", x.ride(0, 0), 21);
        check.due("its first day", x.ride(0, 1), 60);
        x.mend(2, 5, -1);
        check.due("to day 99", x.ride(0, 0), 40);
        x.person(0, 60);
        check.due("never", x.ride(1, 0), 0);
        check.due("never", x.ride(1, 1), NOT);
        x.person(7, 7);
        check.due("always", x.ride(2, 0), 100);
        check.due("always", x.ride(2, 1), 0);
        check.due("what 2", x.ride(0, 2), BAD);
        check.due("what -1", x.ride(0, -1), BAD);
        check.due("one 3", x.ride(3, 0), BAD);
    }

    private void who() {
        check.promise(13);
        ChainsHold x = threeRides();
        x.person(9, 9);
        x.person(8, 9);
        x.person(11, 9);
        check.due("day 5", x.who(5), 0b1010);
        check.due("day 10", x.who(10), 0b1011);
        check.due("day 20", x.who(20), 0b1010);
        check.due("day 100", x.who(100), BAD);
        check.due("day -1", x.who(-1), BAD);
    }

    private void best() {
        check.promise(14);
        ChainsHold x = threeRides();
        check.due("day", x.best(0), 10);
        check.due("how many", x.best(1), 1);
        x.person(0, 3);
        x.promise(13, 4040);
        check.due("day", x.best(0), 40);
        check.due("how many", x.best(1), 2);
        check.due("what 2", x.best(2), BAD);
        check.due("what -1", x.best(-1), BAD);
        ChainsHold y = new ChainsHold();
        y.person(0, 3);
        check.due("nobody ever", y.best(0), 0);
        check.due("nobody ever", y.best(1), 0);
        y.promise(3, 101);
        check.due("day 1", y.best(0), 1);
        y.mend(0, 5, 2);
        check.due("day 1 alone", y.best(0), 1);
    }

    /** BASE 0, ROUND 10, SLACK 0; LINKS 3, 7, 4, 6 and another's 5 that is WITH him: 25 on day 0. */
    private static ChainsHold fiveLinks() {
        ChainsHold x = new ChainsHold();
        x.person(0, 10);
        x.mend(0, 2, 0);
        x.person(0, 60);
        x.promise(3, 50);
        x.promise(7, 50);
        x.promise(4, 50);
        x.promise(6, 50);
        x.promise(15, 50);
        x.mend(4, 6, 0);
        return x;
    }

    private void keepBy() {
        check.promise(15);
        ChainsHold x = fiveLinks();
        check.due("chain", x.chain(0, 0, 0), 25);
        // 15 LINKS must go, of 3, 7, 4, 6 (the 5 is not his): no set has 15
        check.due("not", x.keepBy(0, 0, 0), NOT);
        check.due("not", x.keepBy(0, 0, 1), NOT);
        x.mend(0, 2, 5);
        // 10 to 15 must go: two of them, the least bits: {3, 7}
        check.due("fewest", x.keepBy(0, 0, 0), 2);
        check.due("which", x.keepBy(0, 0, 1), 0b0011);
        x.mend(0, 1, 9);
        x.mend(0, 2, 2);
        // 14 to 16: {3, 7, 4} = 14 and {3, 7, 6} = 16; no two but 7 + 6 = 13
        check.due("three", x.keepBy(0, 0, 0), 3);
        check.due("which", x.keepBy(0, 0, 1), 0b0111);
        x.mend(0, 1, 12);
        x.mend(0, 2, 0);
        check.due("13: 7 and 6, or 3, 4, 6", x.keepBy(0, 0, 1), 0b1010);
        x.mend(1, 6, 1);
        check.due("his that are tied to another too", x.keepBy(0, 0, 1), 0b1010);
        x.mend(1, 5, 0);
        check.due("kept ones not: 18, 6 must go", x.keepBy(0, 0, 1), 0b1000);
        x.mend(0, 1, 18);
        check.due("rides already", x.keepBy(0, 0, 0), 0);
        check.due("rides already", x.keepBy(0, 0, 1), 0);
        x.mend(0, 1, 19);
        check.due("too short", x.keepBy(0, 0, 0), NOT);
        check.due("what 2", x.keepBy(0, 0, 2), BAD);
        check.due("day 100", x.keepBy(0, 100, 0), BAD);
        check.due("one 2", x.keepBy(2, 0, 0), BAD);
    }

    private void keepAll() {
        ChainsHold x = new ChainsHold();
        x.person(10, 10);
        x.mend(0, 2, 0);
        for (int k = 0; k < 10; k++) {
            x.promise(9, 99);
        }
        check.due("all ten", x.keepBy(0, 0, 0), 10);
        check.due("all ten", x.keepBy(0, 0, 1), 1023);
        check.due("all ten", x.lightest(0, 0, 0), 1023);
        check.due("all ten", x.lightest(0, 0, 1), 90);
        check.due("all ten", x.ways(0, 0), 1);
        check.due("in 90 days of 100", x.most(0, 1), 1023);
    }

    private void lightest() {
        check.promise(16);
        ChainsHold x = fiveLinks();
        x.mend(0, 2, 5);
        // 10 to 15 must go: 10 = {3, 7} or {4, 6}
        check.due("which", x.lightest(0, 0, 0), 0b0011);
        check.due("links", x.lightest(0, 0, 1), 10);
        x.mend(0, 1, 12);
        x.mend(0, 2, 0);
        // 13: {7, 6} is fewer than {3, 4, 6}
        check.due("fewest of like ones", x.lightest(0, 0, 0), 0b1010);
        x.mend(0, 1, 15);
        x.mend(0, 2, 3);
        // 7 to 10: 7 = {7}, and {3, 4} has more PROMISES
        check.due("least links", x.lightest(0, 0, 0), 0b0010);
        check.due("7", x.lightest(0, 0, 1), 7);
        x.mend(1, 4, 9);
        // 27: 9 to 12 must go: {9} = 9, {3, 6} = 9
        check.due("9", x.lightest(0, 0, 1), 9);
        check.due("one of 9", x.lightest(0, 0, 0), 0b0010);
        x.mend(0, 1, 10);
        x.mend(0, 2, 9);
        // 8 to 17 must go: 9 is the least that any set has
        check.due("lightest", x.lightest(0, 0, 1), 9);
        x.mend(0, 1, 12);
        x.mend(0, 2, 8);
        // 7 to 15: {3, 4} = 7, though {9} is fewer
        check.due("lighter, though more", x.lightest(0, 0, 0), 0b0101);
        check.due("while fewest", x.keepBy(0, 0, 1), 0b0010);
        x.mend(0, 1, 60);
        check.due("not", x.lightest(0, 0, 0), NOT);
        check.due("not", x.lightest(0, 0, 1), NOT);
        x.mend(0, 1, 27);
        check.due("rides already", x.lightest(0, 0, 0), 0);
        check.due("rides already", x.lightest(0, 0, 1), 0);
        check.due("what 2", x.lightest(0, 0, 2), BAD);
        check.due("day -1", x.lightest(0, -1, 0), BAD);
        check.due("one -1", x.lightest(-1, 0, 0), BAD);
    }

    private void ways() {
        check.promise(17);
        ChainsHold x = fiveLinks();
        check.due("none", x.ways(0, 0), 0);
        x.mend(0, 1, 15);
        check.due("10: {3, 7}, {4, 6}", x.ways(0, 0), 2);
        x.mend(0, 1, 12);
        check.due("13: {7, 6}, {3, 4, 6}", x.ways(0, 0), 2);
        x.mend(0, 1, 25);
        check.due("none of them is a set", x.ways(0, 0), 1);
        x.mend(0, 1, 5);
        x.mend(0, 2, 9);
        // 11 to 20 must go: 11 {7, 4}, 13 {7, 6}, {3, 4, 6}, 14 {3, 7, 4}, 16 {3, 7, 6}, 17 {7, 4, 6}, 20 all
        check.due("seven", x.ways(0, 0), 7);
        check.due("one 2", x.ways(2, 0), BAD);
        check.due("day 100", x.ways(0, 100), BAD);
    }

    private void can() {
        check.promise(18);
        ChainsHold x = new ChainsHold();
        x.person(0, 1);
        x.person(0, 1);
        x.promise(3, 2);
        x.promise(4, 509);
        x.promise(2, 608);
        x.promise(15, 3);
        x.promise(9, 1018);
        check.due("no promise", x.can(0, 0), 1);
        check.due("three days of three", x.can(0, 1), 1);
        // from 5 to 9 are 5 days for 4 and 2 LINKS
        check.due("six in five", x.can(0, 0b00110), 0);
        check.due("each", x.can(0, 0b00010), 1);
        check.due("each", x.can(0, 0b00100), 1);
        check.due("broken off", x.can(0, 0b10101), 1);
        check.due("five in four", x.can(1, 0b01000), 0);
        x.mend(1, 4, 3);
        // 4 LINKS' place: 5, 9 and another day, with 6 .. 8 broken off
        check.due("goes on later", x.can(0, 0b00110), 1);
        check.due("all", x.can(0, 0b10111), 1);
        x.mend(4, 5, 0);
        check.due("kept does not matter", x.can(0, 0b10111), 1);
        check.due("another's", x.can(0, 0b01000), BAD);
        check.due("also another's", x.can(0, 0b11111), BAD);
        x.mend(3, 6, 0);
        check.due("with him is not his", x.can(0, 0b01000), BAD);
        check.due("not there", x.can(0, 32), BAD);
        check.due("-1", x.can(0, -1), BAD);
        check.due("least int", x.can(0, Integer.MIN_VALUE), BAD);
        check.due("one 2", x.can(2, 0), BAD);
    }

    /** Three of 4 LINKS from day 0 to day 9 (two can), one of 9 LINKS from 10 to 17 (cannot). */
    private static ChainsHold clashing() {
        ChainsHold x = new ChainsHold();
        x.person(0, 1);
        x.person(0, 1);
        x.promise(9, 1017);
        x.promise(4, 9);
        x.promise(4, 9);
        x.promise(4, 9);
        x.promise(1, 1818);
        return x;
    }

    private void most() {
        check.promise(19);
        ChainsHold x = clashing();
        check.due("how many", x.most(0, 0), 3);
        check.due("which", x.most(0, 1), 0b10110);
        x.mend(0, 4, 8);
        check.due("how many", x.most(0, 0), 4);
        check.due("which", x.most(0, 1), 0b10111);
        check.due("without promises", x.most(1, 0), 0);
        check.due("no bits", x.most(1, 1), 0);
        check.due("what 2", x.most(0, 2), BAD);
        check.due("one 2", x.most(2, 0), BAD);
    }

    private void clashes() {
        check.promise(20);
        ChainsHold x = clashing();
        check.due("the one, the three", x.clashes(0, 0), 2);
        check.due("the least", x.clashes(0, 1), 0b00001);
        x.mend(0, 4, 8);
        check.due("the three", x.clashes(0, 0), 1);
        check.due("the least", x.clashes(0, 1), 0b01110);
        x.mend(1, 4, 7);
        x.mend(2, 4, 7);
        check.due("each two", x.clashes(0, 0), 3);
        check.due("the least", x.clashes(0, 1), 0b00110);
        check.due("none", x.clashes(1, 0), 0);
        check.due("none", x.clashes(1, 1), NOT);
        check.due("what 2", x.clashes(0, 2), BAD);
        check.due("one -1", x.clashes(-1, 0), BAD);
    }
}
