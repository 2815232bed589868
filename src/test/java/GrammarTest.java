import java.util.ArrayList;
import java.util.HashSet;
import java.util.List;
import java.util.Random;
import java.util.Set;

/**
 * The grammar of THE LAW, rule by rule as the document writes it, and a reader of any grammar (Earley's): it knows of each
 * beginning whether a TEXT goes on with it. law() must find the same FAULT, in all short texts and in long drawn ones.
 */
public final class GrammarTest {
    private static final int MOST_OPEN = 6, MOST_BYTES = 120, SHORT = 4;
    /** Of digits and NAMES a few, as all are alike here; EdgesTest tries all bytes. */
    private static final String SIGNS = "7o|&<=>+-*/%!()?;x ";
    private static final String NAMES = "olcrtp";
    private static final String DIGITS = "0123456789";

    // Parts of the grammar are numbers from 1000 on; E, A, B, S, P, O have one for each count of ( ! - that are open.
    private static final int TEXT = 1000, LINE = 1001, NUMBER = 1002, DIGIT = 1003, NAME = 1004, E = 1010, A = 1020, B = 1030,
        S = 1040, P = 1050, O = 1060, PARTS = 1070;

    private record Rule(int part, int[] signs) {
    }

    private record Item(Rule rule, int dot, int from) {
        boolean ended() {
            return dot == rule.signs.length;
        }

        int next() {
            return rule.signs[dot];
        }

        Item moved() {
            return new Item(rule, dot + 1, from);
        }
    }

    private final Check check = new Check();
    private final List<List<Rule>> rules = new ArrayList<>();
    private final List<Set<Item>> charts = new ArrayList<>();
    private final StringBuilder text = new StringBuilder();
    private ChainsHold x = new ChainsHold();
    private int calls;

    private GrammarTest() {
        for (int part = TEXT; part < PARTS; part++) {
            rules.add(new ArrayList<>());
        }
        // LINES, one or more, parted by ; . LINE: E, or E ? E
        rule(TEXT, LINE);
        rule(TEXT, LINE, ';', TEXT);
        rule(LINE, E);
        rule(LINE, E, '?', E);
        for (int open = 0; open <= MOST_OPEN; open++) {
            rulesOfExpressions(open);
        }
        for (int digits = 1; digits <= 4; digits++) {
            int[] signs = new int[digits];
            java.util.Arrays.fill(signs, DIGIT);
            rule(NUMBER, signs);
        }
        for (char c : DIGITS.toCharArray()) {
            rule(DIGIT, c);
        }
        for (char c : NAMES.toCharArray()) {
            rule(NAME, c);
        }
    }

    private void rulesOfExpressions(int open) {
        // E = A { | A }. A = B { & B }.
        rule(E + open, A + open);
        rule(E + open, A + open, '|', E + open);
        rule(A + open, B + open);
        rule(A + open, B + open, '&', A + open);
        // B = S, or S < S, S = S, S > S.
        rule(B + open, S + open);
        for (char c : "<=>".toCharArray()) {
            rule(B + open, S + open, c, S + open);
        }
        // S = P { + P, - P }. P = O { * O, / O, % O }.
        rule(S + open, P + open);
        for (char c : "+-".toCharArray()) {
            rule(S + open, P + open, c, S + open);
        }
        rule(P + open, O + open);
        for (char c : "*/%".toCharArray()) {
            rule(P + open, O + open, c, P + open);
        }
        // O = a number (1 to 4 digits), a NAME, ! O, - O, ( E ). At most 6 of ( ! - ahead of an O are open at once.
        rule(O + open, NUMBER);
        rule(O + open, NAME);
        if (open < MOST_OPEN) {
            rule(O + open, '!', O + open + 1);
            rule(O + open, '-', O + open + 1);
            rule(O + open, '(', E + open + 1, ')');
        }
    }

    private void rule(int part, int... signs) {
        rules.get(part - TEXT).add(new Rule(part, signs));
    }

    public static void main(String[] args) {
        GrammarTest test = new GrammarTest();
        test.check.promise(8);
        test.begin();
        test.allShort();
        test.manyOpen("", 0);
        test.drawnOnes();
        test.check.end("GrammarTest");
    }

    // ---- the reader

    private void begin() {
        charts.clear();
        text.setLength(0);
        Set<Item> first = new HashSet<>();
        for (Rule r : rules.get(0)) {
            first.add(new Item(r, 0, 0));
        }
        charts.add(closed(first, 0));
    }

    /** Whether a TEXT goes on with this sign; if so, it is read. */
    private boolean read(char sign) {
        Set<Item> next = new HashSet<>();
        int at = charts.size();
        for (Item i : charts.get(at - 1)) {
            if (!i.ended() && i.next() == sign) {
                next.add(i.moved());
            }
        }
        if (next.isEmpty()) {
            return false;
        }
        charts.add(next);
        closed(next, at);
        text.append(sign);
        return true;
    }

    private void unread() {
        charts.remove(charts.size() - 1);
        text.setLength(text.length() - 1);
    }

    private boolean isText() {
        for (Item i : charts.get(charts.size() - 1)) {
            if (i.ended() && i.rule.part == TEXT && i.from == 0) {
                return true;
            }
        }
        return false;
    }

    /** All that can begin or has ended at this place; no rule is empty. */
    private Set<Item> closed(Set<Item> chart, int at) {
        List<Item> open = new ArrayList<>(chart);
        while (!open.isEmpty()) {
            Item i = open.remove(open.size() - 1);
            List<Item> more = new ArrayList<>();
            if (i.ended()) {
                for (Item waiting : charts.get(i.from)) {
                    if (!waiting.ended() && waiting.next() == i.rule.part) {
                        more.add(waiting.moved());
                    }
                }
            } else if (i.next() >= TEXT) {
                for (Rule r : rules.get(i.next() - TEXT)) {
                    more.add(new Item(r, 0, at));
                }
            }
            for (Item m : more) {
                if (chart.add(m)) {
                    open.add(m);
                }
            }
        }
        return chart;
    }

    // ---- what law() says

    private void dueOf(String all, int answer) {
        if (calls > 512 - all.length() - 1) {
            x = new ChainsHold();
            calls = 0;
        }
        for (int i = 0; i < all.length(); i++) {
            x.feed(all.charAt(i));
        }
        calls += all.length() + 1;
        check.due("law() of '" + all + "'", x.law(), answer);
    }

    private void dueHere() {
        dueOf(text.toString(), isText() ? 1 : -100 - text.length());
    }

    /** What comes behind a FAULT is of no weight. */
    private void dueOfFault(char sign) {
        dueOf(text.toString() + sign, -100 - text.length());
        dueOf(text.toString() + sign + "o);1", -100 - text.length());
    }

    private void allShort() {
        dueHere();
        for (char sign : SIGNS.toCharArray()) {
            if (!read(sign)) {
                dueOfFault(sign);
                continue;
            }
            if (text.length() < SHORT) {
                allShort();
            } else {
                dueHere();
            }
            unread();
        }
    }

    /** All orders of up to eight ( ! -, each behind nothing or behind an O and a sign. */
    private void manyOpen(String opened, int count) {
        for (char sign : "(!-".toCharArray()) {
            for (String ahead : count % 3 == 1 ? new String[] {"", "o+", "(1)*"} : new String[] {""}) {
                String all = opened + ahead + sign;
                dueByReading(all + "o");
                if (count < 7) {
                    manyOpen(all, count + 1);
                }
            }
        }
    }

    private void dueByReading(String all) {
        begin();
        for (int i = 0; i < all.length(); i++) {
            if (!read(all.charAt(i))) {
                dueOf(all, -100 - i);
                return;
            }
        }
        dueHere();
    }

    private void drawnOnes() {
        Random random = new Random(7);
        for (int k = 0; k < 1500; k++) {
            StringBuilder all = new StringBuilder(drawn(random, TEXT, 0));
            for (int more = random.nextInt(8); more > 0; more--) {
                all.append(';').append(drawn(random, LINE, 0));
            }
            all.setLength(Math.min(all.length(), MOST_BYTES));
            dueByReading(all.toString());
            int at = random.nextInt(all.length());
            all.setCharAt(at, SIGNS.charAt(random.nextInt(SIGNS.length())));
            dueByReading(all.toString());
            all.deleteCharAt(at);
            dueByReading(all.toString());
        }
    }

    private String drawn(Random random, int part, int depth) {
        if (part < TEXT) {
            return String.valueOf((char) part);
        }
        List<Rule> all = rules.get(part - TEXT);
        Rule rule = all.get(random.nextInt(depth > 14 ? Math.min(2, all.size()) : all.size()));
        if (depth > 14 && part < O) {
            rule = all.get(0);
        }
        StringBuilder drawn = new StringBuilder();
        for (int sign : rule.signs) {
            drawn.append(drawn(random, sign, depth + 1));
        }
        return drawn.toString();
    }
}
