/** Promises 29 to 36: days in deed, what is led, an image, changes undone and done again. */
public final class DeedsTest {
    private static final int BAD = -1, FULL = -3, STATE = -5;
    private final Check check = new Check();

    private DeedsTest() {
    }

    public static void main(String[] args) {
        DeedsTest test = new DeedsTest();
        test.passes();
        test.vow();
        test.kept();
        test.led();
        test.image();
        test.back();
        test.backAndChanges();
        test.undo();
        test.undoFortyAtMost();
        test.undoManySorts();
        test.redo();
        test.redoBehindDeeds();
        test.check.end("DeedsTest");
    }

    private void passes() {
        check.promise(29);
        ChainsHold x = new ChainsHold();
        x.person(5, 5);
        for (int day = 1; day <= 99; day++) {
            check.due("day " + day, x.passes(), day);
        }
        check.due("it is 99", x.passes(), STATE);
        check.due("now", x.led(4), 99);
        check.due("days", x.led(0), 99);
        check.due("rides, not of a day that did not pass", x.led(3), 99);
    }

    private void vow() {
        check.promise(30);
        ChainsHold x = new ChainsHold();
        check.due("nobody", x.vow(1, 5), BAD);
        x.person(0, 9);
        x.passes();
        x.passes();
        check.due("due ahead of now", x.vow(4, 1), BAD);
        check.due("due 100", x.vow(4, 100), BAD);
        check.due("links 0", x.vow(0, 5), BAD);
        check.due("whose 1", x.vow(14, 5), BAD);
        check.due("wl -4", x.vow(-4, 5), BAD);
        check.due("due now", x.vow(4, 2), 0);
        check.due("made now", x.of(0, 8), 2);
        check.due("due", x.of(0, 3), 2);
        check.due("links", x.of(0, 4), 4);
        check.due("kept", x.of(0, 5), -1);
        check.due("due 99", x.vow(4, 99), 1);
        check.due("led", x.led(1), 2);
        check.due("no change", x.count(3), 0);
        for (int k = 2; k < 10; k++) {
            check.due("vow " + k, x.vow(1, 50), k);
        }
        check.due("an eleventh", x.vow(1, 50), FULL);
        check.due("BAD ahead of FULL", x.vow(1, 1), BAD);
        check.due("led", x.led(1), 10);
    }

    private void kept() {
        check.promise(31);
        ChainsHold x = new ChainsHold();
        check.due("no promise", x.kept(0), BAD);
        x.person(0, 9);
        x.person(0, 9);
        x.promise(1, 5);
        x.promise(1, 105);
        x.promise(12, 5);
        x.promise(12, 3);
        check.due("not made yet", x.kept(1), STATE);
        check.due("of all that are open now", x.kept(0), 2);
        check.due("kept already", x.kept(0), STATE);
        x.passes();
        check.due("another day", x.kept(3), 2);
        check.due("kept on it", x.of(3, 5), 1);
        x.mend(2, 5, 1);
        check.due("kept today", x.kept(2), STATE);
        x.mend(2, 5, 2);
        check.due("kept only later: open now", x.kept(2), 1);
        check.due("kept now", x.of(2, 5), 1);
        check.due("led", x.led(2), 3);
        check.due("two changes by mend", x.count(3), 2);
        check.due("-1", x.kept(-1), BAD);
        check.due("4", x.kept(4), BAD);
    }

    private void led() {
        check.promise(32);
        ChainsHold x = new ChainsHold();
        x.person(2, 4);
        x.person(4, 4);
        x.mend(1, 2, 0);
        x.promise(13, 101);
        check.due("nothing yet", x.led(3), 0);
        x.passes();
        check.due("day 0: 1 rides", x.led(3), 1);
        x.vow(2, 9);
        x.passes();
        check.due("day 1: 0 rides by what it is as it ends", x.led(3), 2);
        x.kept(0);
        x.passes();
        check.due("day 2: both", x.led(3), 4);
        check.due("days", x.led(0), 3);
        check.due("promises", x.led(1), 1);
        check.due("kept", x.led(2), 1);
        check.due("now", x.led(4), 3);
        check.due("5", x.led(5), BAD);
        check.due("-1", x.led(-1), BAD);
    }

    private void image() {
        check.promise(33);
        ChainsHold x = new ChainsHold();
        check.due("now", x.image(), 0);
        x.passes();
        check.due("now", x.image(), 1);
        x.passes();
        check.due("the latest one", x.back(), 1);
        check.due("again", x.back(), 1);
    }

    private void back() {
        check.promise(34);
        ChainsHold x = new ChainsHold();
        check.due("none", x.back(), STATE);
        x.person(5, 5);
        x.promise(1, 5);
        x.vow(1, 5);
        x.mend(0, 5, 70);
        x.passes();
        x.kept(1);
        x.image();
        x.passes();
        x.mend(0, 5, -1);
        x.mend(1, 5, 33);
        x.vow(2, 20);
        x.kept(2);
        x.passes();
        check.due("now", x.back(), 1);
        check.due("now", x.led(4), 1);
        check.due("days", x.led(0), 1);
        check.due("promises", x.led(1), 1);
        check.due("kept", x.led(2), 1);
        check.due("rides", x.led(3), 1);
        check.due("kept 0", x.of(0, 5), 70);
        check.due("kept 1", x.of(1, 5), 1);
        check.due("one that came since", x.of(2, 5), 2);
        check.due("promises stay", x.count(1), 3);
        check.due("goes on", x.passes(), 2);
    }

    private void backAndChanges() {
        ChainsHold x = new ChainsHold();
        x.person(5, 5);
        x.promise(1, 5);
        x.image();
        x.mend(0, 5, 9);
        x.mend(0, 0, 6);
        x.back();
        check.due("laid back", x.of(0, 5), -1);
        check.due("base is no part of it", x.of(0, 0), 6);
        check.due("changes stay", x.count(3), 2);
        check.due("undone", x.undo(), 1);
        check.due("undone", x.undo(), 0);
        check.due("what it was", x.of(0, 5), -1);
        x.back();
        check.due("done again", x.redo(), 1);
        check.due("as told then", x.of(0, 5), 9);
    }

    private void undo() {
        check.promise(35);
        ChainsHold x = new ChainsHold();
        check.due("none", x.undo(), STATE);
        x.person(5, 6);
        x.person(0, 1);
        x.promise(4, 1020);
        int[] first = {5, 6, 2, 20, 4, -1, -1};
        int[] then = {7, 8, 3, 30, 5, 40, 1};
        for (int what = 0; what < 7; what++) {
            x.mend(0, what, then[what]);
        }
        x.mend(0, 6, 1);
        x.mend(0, 6, 0);
        check.due("changes", x.count(3), 7);
        for (int what = 6; what >= 0; what--) {
            check.due("number " + what, x.of(0, what), then[what]);
            check.due("undo", x.undo(), what);
            check.due("number " + what, x.of(0, what), first[what]);
        }
        check.due("none", x.undo(), STATE);
        x.kept(0);
        x.passes();
        x.vow(1, 5);
        check.due("deeds are none", x.undo(), STATE);
    }

    private void undoFortyAtMost() {
        ChainsHold x = new ChainsHold();
        x.person(0, 6);
        for (int k = 1; k <= 45; k++) {
            x.mend(0, 0, k % 2 == 0 ? 2 : 1);
            x.mend(0, 0, 10 + k % 20);
        }
        check.due("kept", x.count(3), 40);
        for (int left = 39; left >= 0; left--) {
            check.due("undo", x.undo(), left);
        }
        check.due("no more", x.undo(), STATE);
        check.due("as it was behind the fiftieth", x.of(0, 0), 10 + 25 % 20);
        check.due("redo", x.redo(), 39);
        check.due("the 26th pair's first", x.of(0, 0), 2);
    }

    /** Numbers of several people and promises, so that each is found again behind the forty. */
    private void undoManySorts() {
        ChainsHold x = new ChainsHold();
        x.person(0, 1);
        x.person(0, 1);
        x.promise(1, 50);
        x.promise(12, 50);
        for (int k = 1; k <= 9; k++) {
            x.mend(k % 2, 0, k);
            x.mend(1 - k % 2, 1, 10 + k);
            x.mend(k % 2, 3, 60 + k);
            x.mend(1 - k % 2, 5, 30 + k);
            x.mend(k % 2, 2, k % 2 == 0 ? 9 - k : k);
        }
        x.mend(0, 0, 20);
        x.mend(1, 1, 30);
        check.due("forty", x.count(3), 40);
        int[] then = {20, 9, 19, 30, 68, 69, 39, 38};
        toldLast(x, then);
        for (int left = 39; left >= 0; left--) {
            check.due("undo", x.undo(), left);
        }
        // the first seven were forgotten: those of k = 1, and two of k = 2
        check.due("base of 1", x.of(1, 0), 1);
        check.due("round of 0", x.of(0, 1), 11);
        check.due("due of 1", x.of(1, 3), 61);
        check.due("kept of 0", x.of(0, 5), 31);
        check.due("slack of 1", x.of(1, 2), 1);
        check.due("base of 0", x.of(0, 0), 2);
        check.due("round of 1", x.of(1, 1), 12);
        check.due("due of 0", x.of(0, 3), 50);
        check.due("kept of 1", x.of(1, 5), -1);
        for (int left = 39; left >= 0; left--) {
            check.due("redo", x.redo(), left);
        }
        toldLast(x, then);
    }

    private void toldLast(ChainsHold x, int[] then) {
        int[] whats = {0, 1, 3, 5};
        for (int i = 0; i < then.length; i++) {
            check.due("number " + whats[i / 2] + " of " + i % 2, x.of(i % 2, whats[i / 2]), then[i]);
        }
    }

    private void redo() {
        check.promise(36);
        ChainsHold x = new ChainsHold();
        check.due("none", x.redo(), STATE);
        x.person(5, 6);
        x.mend(0, 0, 6);
        check.due("none undone", x.redo(), STATE);
        x.mend(0, 0, 7);
        x.mend(0, 1, 8);
        x.undo();
        x.undo();
        x.undo();
        check.due("base", x.of(0, 0), 5);
        check.due("redo", x.redo(), 2);
        check.due("base", x.of(0, 0), 6);
        check.due("undoable", x.count(3), 1);
        check.due("redo", x.redo(), 1);
        check.due("base", x.of(0, 0), 7);
        x.mend(0, 0, 7);
        check.due("the same number is no change", x.redo(), 0);
        check.due("round", x.of(0, 1), 8);
        check.due("none", x.redo(), STATE);
        x.undo();
        x.undo();
        x.mend(0, 2, 4);
        check.due("another came behind", x.redo(), STATE);
        check.due("undoable", x.count(3), 2);
        x.undo();
        x.mend(0, 0, 99);
        check.due("what is BAD is none", x.redo(), 0);
        check.due("slack", x.of(0, 2), 4);
    }

    private void redoBehindDeeds() {
        ChainsHold x = new ChainsHold();
        x.person(5, 6);
        x.promise(4, 20);
        x.mend(0, 5, 8);
        x.undo();
        x.passes();
        x.kept(0);
        x.person(1, 1);
        x.vow(12, 30);
        check.due("deeds are no changes", x.redo(), 0);
        check.due("kept", x.of(0, 5), 8);
        check.due("undo", x.undo(), 0);
        check.due("what it was ahead of the change", x.of(0, 5), -1);
    }
}
