/**
 * All calls of promises 9 to 28 with six people and ten promises, or fewer, each answer held against PlainModel's.
 * They are more than the 512 calls that the document promises for one object; but ChainsHold counts no calls.
 */
public final class FullHouseTest {
    private final Check check;
    private final ChainsHold x = new ChainsHold();
    private final PlainModel m = new PlainModel();

    private FullHouseTest(Check check, int people, int[][] promises, int[][] mends) {
        this.check = check;
        int[][] all = {{2, 14}, {6, 18}, {0, 9}, {9, 12}, {30, 60}, {5, 5}};
        for (int k = 0; k < people; k++) {
            due("person", x.person(all[k][0], all[k][1]), m.person(all[k][0], all[k][1]));
        }
        for (int[] p : promises) {
            due("promise", x.promise(p[0], p[1]), m.promise(p[0], p[1]));
        }
        for (int[] n : mends) {
            due("mend", x.mend(n[0], n[1], n[2]), m.mend(n[0], n[1], n[2]));
        }
    }

    public static void main(String[] args) {
        int[][] ten = {{4, 12}, {5, 514}, {6, 815}, {17, 240}, {13, 1022}, {28, 2025}, {2, 3060}, {24, 309}, {51, 0}, {59, 9999}};
        int[][] mends = {{6, 6, 1}, {0, 5, 11}, {3, 5, 35}, {5, 5, 30}, {1, 2, 6}, {8, 6, 0}, {9, 6, 4}, {7, 5, 3}};
        int[][] tenOfOne = {{1, 0}, {2, 3}, {3, 5}, {4, 9}, {5, 119}, {6, 230}, {7, 330}, {8, 440}, {9, 1050}, {9, 1860}};
        Check check = new Check();
        new FullHouseTest(check, 6, ten, mends).askAll();
        new FullHouseTest(check, 1, tenOfOne, new int[][] {{0, 1, 20}, {0, 2, 9}}).askAll();
        new FullHouseTest(check, 6, tenOfOne, new int[][] {{0, 1, 48}, {0, 2, 0}, {9, 5, 70}, {5, 6, 5}}).askAll();
        new FullHouseTest(check, 2, new int[][] {{9, 0}, {3, 101}}, new int[][] {{0, 1, 2}, {0, 2, 0}}).askAll();
        check.end("FullHouseTest");
    }

    private void due(String call, long got, long want) {
        check.due(call, got, want);
    }

    private void askAll() {
        for (String law : new String[] {"", "o*2+l-c/9+r/20+t*3-p", "o%3=0?l;t|p>4?c;7"}) {
            for (int i = 0; i < law.length(); i++) {
                due("feed", x.feed(law.charAt(i)), m.feed(law.charAt(i)));
            }
            if (!law.isEmpty()) {
                due("law", x.law(), m.law());
            }
            askOfDays();
            askOfOnes();
            askOfBooks();
        }
    }

    private void askOfDays() {
        for (int d = -1; d <= 100; d++) {
            due("who " + d, x.who(d), m.who(d));
            for (int what = -1; what <= 2; what++) {
                due("handBest " + d, x.handBest(d, what), m.handBest(d, what));
            }
            for (int p = -1; p <= 10; p++) {
                due("creak " + p + " " + d, x.creak(p, d), m.creak(p, d));
                for (int to = 0; to <= 6 && d % 9 == 0; to++) {
                    due("hand " + p + " " + to, x.hand(100 * p + to, d), m.hand(100 * p + to, d));
                }
            }
        }
        for (int what = -1; what <= 2; what++) {
            due("best", x.best(what), m.best(what));
            due("loudest", x.loudest(what), m.loudest(what));
        }
    }

    private void askOfOnes() {
        for (int one = -1; one <= 6; one++) {
            for (int d = -1; d <= 100; d++) {
                for (int what = -1; what <= 4; what++) {
                    due("chain " + one + " " + d + " " + what, x.chain(one, d, what), m.chain(one, d, what));
                }
                due("rides from " + d, x.rides(one, d, -1), m.rides(one, d, -1));
                due("rides to " + d, x.rides(one, 5, d), m.rides(one, 5, d));
            }
            for (int d = 0; d < 100; d += 11) {
                due("ways", x.ways(one, d), m.ways(one, d));
                for (int what = 0; what <= 1; what++) {
                    due("keepBy " + one + " " + d, x.keepBy(one, d, what), m.keepBy(one, d, what));
                    due("lightest " + one + " " + d, x.lightest(one, d, what), m.lightest(one, d, what));
                    for (int n = 0; n <= 5 && d < 60; n++) {
                        due("byTurns " + d + " " + n, x.byTurns(one, 10 * d + n, what), m.byTurns(one, 10 * d + n, what));
                    }
                }
                due("drawn", x.drawn(d * 77, 9, one, d), m.drawn(d * 77, 9, one, d));
            }
            due("drawn", x.drawn(-1, 30, one, -1), m.drawn(-1, 30, one, -1));
            for (int what = -1; what <= 2; what++) {
                due("ride", x.ride(one, what), m.ride(one, what));
                due("most", x.most(one, what), m.most(one, what));
                due("clashes", x.clashes(one, what), m.clashes(one, what));
            }
            for (int set = -1; set <= 1024; set++) {
                due("can " + one + " " + set, x.can(one, set), m.can(one, set));
            }
        }
    }

    private void askOfBooks() {
        for (int one = 0; one <= 5; one++) {
            due("row", x.row(one, 1, 60), m.row(one, 1, 60));
            for (int d = 0; d < 60; d++) {
                int loud = Math.max(0, m.chain(one, d, 2));
                due("put", x.put(one, d, loud), m.put(one, d, loud));
            }
            due("whose", x.whose(one), m.whose(one));
            for (int p = 0; p <= 10; p++) {
                due("keptOn " + p, x.keptOn(one, p, one, 0), m.keptOn(one, p, one, 0));
                due("keptOn " + p, x.keptOn(one, p, one, 1), m.keptOn(one, p, one, 1));
                due("judge", x.judge(one, p - 2), m.judge(one, p - 2));
            }
        }
    }
}
