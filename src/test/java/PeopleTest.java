/** Promises 1 to 8: a new object, people, promises, mending, THE LAW. */
public final class PeopleTest {
    private static final int BAD = -1, FULL = -3, VOID = -2000000000;
    private final Check check = new Check();

    private PeopleTest() {
    }

    public static void main(String[] args) {
        PeopleTest test = new PeopleTest();
        test.newObject();
        test.person();
        test.promise();
        test.promises();
        test.promisesThatEnd();
        test.mend();
        test.of();
        test.feed();
        test.lawFaults();
        test.lawValues();
        test.lawStays();
        test.check.end("PeopleTest");
    }

    private static void feed(ChainsHold x, String text) {
        for (int i = 0; i < text.length(); i++) {
            x.feed(text.charAt(i));
        }
    }

    private static int law(String text) {
        ChainsHold x = new ChainsHold();
        feed(x, text);
        return x.law();
    }

    private void newObject() {
        check.promise(1);
        ChainsHold x = new ChainsHold();
        for (int what = 0; what <= 5; what++) {
            check.due("count(" + what + ")", x.count(what), 0);
        }
        for (int what = 0; what <= 4; what++) {
            check.due("led(" + what + ")", x.led(what), 0);
        }
        for (int shelf = 0; shelf <= 5; shelf++) {
            check.due("put on shelf " + shelf, x.put(shelf, 0, 1), -11);
        }
        check.due("who", x.who(0), 0);
        check.due("back", x.back(), -5);
        ChainsHold y = new ChainsHold();
        y.person(1, 1);
        check.due("another object's people", x.count(0), 0);
    }

    private void person() {
        check.promise(2);
        ChainsHold x = new ChainsHold();
        check.due("base -1", x.person(-1, 1), BAD);
        check.due("base 31", x.person(31, 1), BAD);
        check.due("round 0", x.person(0, 0), BAD);
        check.due("round 61", x.person(0, 61), BAD);
        check.due("least", x.person(0, 1), 0);
        check.due("greatest", x.person(30, 60), 1);
        check.due("slack at first", x.of(1, 2), 2);
        check.due("base", x.of(1, 0), 30);
        check.due("round", x.of(1, 1), 60);
        for (int k = 2; k < 6; k++) {
            check.due("person " + k, x.person(k, 10), k);
        }
        check.due("a seventh", x.person(1, 1), FULL);
        check.due("BAD ahead of FULL", x.person(1, 0), BAD);
        check.due("count", x.count(0), 6);
    }

    private void promise() {
        check.promise(3);
        ChainsHold x = new ChainsHold();
        check.due("nobody", x.promise(1, 0), BAD);
        x.person(0, 1);
        x.person(0, 1);
        check.due("links 0", x.promise(10, 0), BAD);
        check.due("whose 2", x.promise(21, 0), BAD);
        check.due("wl -1", x.promise(-1, 0), BAD);
        check.due("wl -9", x.promise(-9, 0), BAD);
        check.due("md -1", x.promise(1, -1), BAD);
        check.due("md -100", x.promise(1, -100), BAD);
        check.due("due ahead of made", x.promise(1, 504), BAD);
        check.due("made 100", x.promise(1, 10000), BAD);
        check.due("least int", x.promise(Integer.MIN_VALUE, Integer.MIN_VALUE), BAD);
        check.due("greatest int", x.promise(Integer.MAX_VALUE, Integer.MAX_VALUE), BAD);
        check.due("one day", x.promise(19, 9999), 0);
        check.due("whose", x.of(0, 7), 1);
        check.due("made", x.of(0, 8), 99);
        check.due("due", x.of(0, 3), 99);
        check.due("links", x.of(0, 4), 9);
        check.due("kept", x.of(0, 5), -1);
        check.due("with", x.of(0, 6), -1);
        for (int k = 1; k < 10; k++) {
            check.due("promise " + k, x.promise(1, 99), k);
        }
        check.due("an eleventh", x.promise(1, 99), FULL);
        check.due("BAD ahead of FULL", x.promise(0, 99), BAD);
    }

    private static void fill(ChainsHold x, int shelf, int... bytes) {
        x.row(shelf, 0, bytes.length);
        for (int i = 0; i < bytes.length; i++) {
            x.put(shelf, i, bytes[i]);
        }
    }

    private void promises() {
        check.promise(4);
        ChainsHold x = new ChainsHold();
        x.person(0, 1);
        x.person(0, 1);
        check.due("no shelf", x.promises(6, 0, 1), BAD);
        check.due("no shelf", x.promises(-1, 0, 1), BAD);
        check.due("n 0", x.promises(0, 0, 0), BAD);
        check.due("n 11", x.promises(0, 0, 11), BAD);
        check.due("missing", x.promises(0, 0, 1), 0);
        x.row(0, 1, 8);
        check.due("shorts", x.promises(0, 0, 1), -12);
        check.due("BAD first", x.promises(0, 0, 0), BAD);
        x.body(0);
        x.keep(0, 0);
        check.due("a link", x.promises(0, 0, 1), -12);
        fill(x, 1, 7, 1, 5, 6, 3, 0, 0, 99, 9);
        check.due("from place 1", x.promises(1, 1, 2), 2);
        check.due("whose", x.of(0, 7), 1);
        check.due("made", x.of(0, 8), 5);
        check.due("due", x.of(0, 3), 6);
        check.due("links", x.of(0, 4), 3);
        check.due("whose", x.of(1, 7), 0);
        check.due("due", x.of(1, 3), 99);
        check.due("only n", x.promises(1, 1, 1), 1);
        check.due("count", x.count(1), 3);
        check.due("no change", x.count(3), 0);
        check.due("none led", x.led(1), 0);
    }

    private void promisesThatEnd() {
        ChainsHold x = new ChainsHold();
        x.person(0, 1);
        fill(x, 0, 0, 0, 1, 1, 0, 0, 1);
        check.due("ends within a four", x.promises(0, 0, 2), 1);
        check.due("below 0", x.promises(0, -1, 2), 0);
        check.due("least int", x.promises(0, Integer.MIN_VALUE, 2), 0);
        check.due("greatest int", x.promises(0, Integer.MAX_VALUE, 10), 0);
        check.due("behind the end", x.promises(0, 7, 2), 0);
        fill(x, 0, 0, 0, 1, 1, 1, 0, 1, 1, 0, 0, 1, 1);
        check.due("nobody is 1", x.promises(0, 0, 3), 1);
        fill(x, 0, 0, 5, 4, 1);
        check.due("due ahead of made", x.promises(0, 0, 1), 0);
        fill(x, 0, 0, 5, 4, 1, 0, 5, 100, 1);
        check.due("due 100", x.promises(0, 4, 1), 0);
        fill(x, 0, 0, -1, 4, 1);
        check.due("made -1", x.promises(0, 0, 1), 0);
        fill(x, 0, 0, 0, 4, 10);
        check.due("links 10", x.promises(0, 0, 1), 0);
        fill(x, 0, 256, 0, 4, 257);
        check.due("lowest bits count", x.promises(0, 0, 1), 1);
        x.row(0, 0, 60);
        for (int i = 3; i < 60; i += 4) {
            x.put(0, i, 1);
        }
        check.due("till full", x.promises(0, 0, 10), 7);
        check.due("full", x.promises(0, 0, 10), 0);
        check.due("count", x.count(1), 10);
    }

    private void mend() {
        check.promise(5);
        ChainsHold x = new ChainsHold();
        x.person(3, 4);
        x.person(0, 1);
        x.promise(5, 1020);
        check.due("base", x.mend(0, 0, 30), 3);
        check.due("round", x.mend(0, 1, 60), 4);
        check.due("slack", x.mend(0, 2, 9), 2);
        check.due("due", x.mend(0, 3, 10), 20);
        check.due("links", x.mend(0, 4, 9), 5);
        check.due("kept", x.mend(0, 5, 0), -1);
        check.due("kept", x.mend(0, 5, -1), 0);
        check.due("with", x.mend(0, 6, 1), -1);
        check.due("with", x.mend(0, 6, -1), 1);
        int[][] bad = {{0, 0, 31}, {0, 0, -1}, {0, 1, 0}, {0, 1, 61}, {0, 2, -1}, {0, 2, 10}, {0, 3, 9}, {0, 3, 100},
            {0, 4, 0}, {0, 4, 10}, {0, 5, -2}, {0, 5, 100}, {0, 6, 0}, {0, 6, 2}, {0, 6, -2}, {2, 0, 1}, {-1, 0, 1},
            {1, 3, 50}, {-1, 5, 1}, {0, 7, 0}, {0, 8, 10}, {0, -1, 0}, {0, 9, 0}};
        for (int[] b : bad) {
            check.due("mend(" + b[0] + ", " + b[1] + ", " + b[2] + ")", x.mend(b[0], b[1], b[2]), VOID);
        }
        int[][] edges = {{0, 0, 0}, {1, 1, 60}, {2, 0, 9}, {3, 99, 10}, {4, 1, 9}, {5, 99, -1}};
        for (int[] e : edges) {
            int was = x.of(0, e[0]);
            check.due("edge of " + e[0], x.mend(0, e[0], e[1]), was);
            check.due("edge of " + e[0], x.mend(0, e[0], was), e[1]);
        }
        int[] now = {30, 60, 9, 10, 9, -1, -1, 0, 10};
        for (int what = 0; what < 9; what++) {
            check.due("number " + what + " then", x.of(0, what), now[what]);
        }
        check.due("changes", x.count(3), 21);
        check.due("the same number", x.mend(0, 0, 30), 30);
        check.due("is no change", x.count(3), 21);
    }

    private void of() {
        check.promise(6);
        ChainsHold x = new ChainsHold();
        for (int what = -1; what <= 9; what++) {
            check.due("of(0, " + what + ") of none", x.of(0, what), VOID);
        }
        x.person(7, 8);
        check.due("base", x.of(0, 0), 7);
        check.due("round", x.of(0, 1), 8);
        check.due("slack", x.of(0, 2), 2);
        check.due("no promise", x.of(0, 3), VOID);
        x.promise(4, 1234);
        int[] due = {7, 8, 2, 34, 4, -1, -1, 0, 12};
        for (int what = 0; what < 9; what++) {
            check.due("of(0, " + what + ")", x.of(0, what), due[what]);
        }
        check.due("what 9", x.of(0, 9), VOID);
        check.due("what -1", x.of(0, -1), VOID);
        check.due("one 1", x.of(1, 0), VOID);
        check.due("promise 1", x.of(1, 8), VOID);
        check.due("-1", x.of(-1, 8), VOID);
    }

    private void feed() {
        check.promise(7);
        ChainsHold x = new ChainsHold();
        check.due("-1", x.feed(-1), BAD);
        check.due("256", x.feed(256), BAD);
        check.due("0", x.feed(0), 1);
        check.due("255", x.feed(255), 2);
        for (int k = 3; k <= 120; k++) {
            check.due("byte " + k, x.feed('1'), k);
        }
        check.due("one more", x.feed('1'), FULL);
        check.due("BAD ahead of FULL", x.feed(256), BAD);
        check.due("count", x.count(2), 120);
        check.due("law", x.law(), -100);
        check.due("empty then", x.count(2), 0);
        check.due("first again", x.feed('o'), 1);
    }

    private void lawFaults() {
        check.promise(8);
        String[] good = {"0", "9999", "o", "l+c-r*t/p%2", "1|2&3<4", "(1<2)<3", "!-!-!-1", "((((((1))))))", "-(-(-(1)))",
            "1;2;3", "1?2;3", "o>5?l;1", "--1--1", "1<2|3>4&5=6", "(1)+(1)*(((((1)))))", "-1-1-1-1-1-1-1-1", "!!!!!!o+!!!!!!o"};
        for (String text : good) {
            check.due(text, law(text), 1);
        }
        Object[][] bad = {{"", 0}, {"1;", 2}, {"1?", 2}, {"(1", 2}, {"1+", 2}, {"12345", 4}, {"1 ", 1}, {"x", 0}, {"1)", 1},
            {"1<2<3", 3}, {"1=2>3", 3}, {"1?2?3", 3}, {"(1?2)", 2}, {"(1;2)", 2}, {"()", 1}, {"oo", 1}, {"1o", 1}, {"o1", 1},
            {";", 0}, {"?1", 0}, {"1;;2", 2}, {"1?;2", 2}, {"!!!!!!!1", 6}, {"-------1", 6}, {"(((((((1)))))))", 6},
            {"-(!(-(-1", 6}, {"(!-(!-1))", -1}, {"1-", 2}, {"1!2", 1}, {"1(2)", 1}, {"1+*2", 2}, {"+1", 0}, {"*1", 0},
            {"((((((-1))))))", 6}, {"-(((((1)))))+(((((((1", 19}, {"O", 0}, {"~1", 0}, {"1~", 1}, {"\u00ff", 0}};
        for (Object[] row : bad) {
            int fault = (Integer) row[1];
            check.due(row[0] + " with a fault", law((String) row[0]), fault < 0 ? 1 : -100 - fault);
        }
        StringBuilder long120 = new StringBuilder();
        for (int k = 0; k < 60; k++) {
            long120.append("1+");
        }
        check.due("120 bytes that end too early", law(long120.toString()), -220);
        long120.setCharAt(119, '5');
        long120.setCharAt(118, '5');
        check.due("120 bytes", law(long120.toString()), 1);
        check.due("59 of 1, and 55", loud(long120.toString()), 99);
        check.due("60 lines, of which the last lacks", law("1;".repeat(60)), -220);
        check.due("60 lines", loud("0?1;".repeat(29) + "0;44"), 0);
        check.due("60 lines", loud("0?1;".repeat(29) + "7;5"), 7);
        check.due("119 bytes of operands", loud("o" + "|o".repeat(59)), 1);
    }

    /** One promise: 5 LINKS, DUE 10, so on day 20 o is 10; BASE 3 makes c 8; ROUND 12. */
    private int loud(String text) {
        ChainsHold x = new ChainsHold();
        x.person(3, 12);
        x.promise(5, 10);
        feed(x, text);
        check.due("law " + text, x.law(), 1);
        return x.creak(0, 20);
    }

    private void lawValues() {
        Object[][] values = {{"o", 10}, {"l", 5}, {"c", 8}, {"r", 12}, {"t", 0}, {"p", 0}, {"100", 99}, {"0-1", 0}, {"-5+6", 1},
            {"2+3*4", 14}, {"(2+3)*4", 20}, {"20-5-3", 12}, {"60/5/2", 6}, {"17%7", 3}, {"0-17/5+10", 7}, {"(0-17)%5+10", 8},
            {"7/0+3", 3}, {"7%0+3", 3}, {"!0", 1}, {"!5", 0}, {"!0+1", 2}, {"-3*-3", 9}, {"5|0", 1}, {"0|0", 0}, {"5&6", 1},
            {"5&0", 0}, {"1|0&0", 1}, {"1<2", 1}, {"2<2", 0}, {"2=2", 1}, {"3>2", 1}, {"1<2&2<1", 0}, {"1+1<3", 1},
            {"3<1+1", 0}, {"0?5;7", 7}, {"3?5;7", 5}, {"0?5", 0}, {"0?5;0?6", 0}, {"o>5?40;41", 40},
            {"o>50?40;41", 41}, {"0?5;1?6;7", 6}, {"2;3", 2}, {"0005", 5}, {"!(o=10)+4", 4},
            {"--7", 7}, {"!!7", 1}, {"1|1+1", 1}, {"2*3%4", 2}, {"-(2-9)", 7}, {"50-o-l*2", 30},
            {"-2%2+3", 3}, {"(0-7)/2+9", 6}, {"1&5", 1}, {"2=3", 0}, {"3>3", 0}, {"(0|2)+4", 5}, {"1?0|2;9", 1},
            {"1?!!!!!!5;9", 1}, {"0&5", 0}, {"0|1?6;9", 6}};
        for (Object[] row : values) {
            check.due("value of " + row[0], loud((String) row[0]), (Integer) row[1]);
        }
        // 50000 * 50000 wraps to less than 0, less that again is above 99
        check.due("wraps", loud("5000*10*(5000*10)"), 0);
        check.due("wraps", loud("-(5000*10*(5000*10))"), 99);
        // the least int by -1 is the least int, its rest 0
        check.due("least int / -1", loud("8192*8192*32/-1<0"), 1);
        check.due("least int % -1", loud("8192*8192*32%-1+7"), 7);
        ChainsHold x = new ChainsHold();
        x.person(3, 12);
        x.person(0, 20);
        x.promise(11, 5);
        x.promise(5, 10);
        x.mend(1, 6, 1);
        feed(x, "t*50+p*30+c");
        x.law();
        check.due("t, p, c of WHOSE", x.creak(1, 20), 88);
        check.due("not tied, p 0, c with those WITH him", x.creak(0, 20), 6);
    }

    private void lawStays() {
        ChainsHold x = new ChainsHold();
        x.person(3, 12);
        x.promise(5, 10);
        check.due("without a text", x.creak(0, 20), 15);
        feed(x, "7;");
        check.due("a fault", x.law(), -102);
        check.due("still without a text", x.creak(0, 20), 15);
        feed(x, "7");
        check.due("a text", x.law(), 1);
        check.due("by it", x.creak(0, 20), 7);
        feed(x, "8+");
        check.due("a fault", x.law(), -102);
        check.due("the law stays", x.creak(0, 20), 7);
        check.due("empty tape", x.law(), -100);
        check.due("the law stays", x.creak(0, 20), 7);
        feed(x, "9");
        check.due("another text", x.law(), 1);
        check.due("by it", x.creak(0, 20), 9);
        check.due("no change", x.count(3), 0);
    }
}
