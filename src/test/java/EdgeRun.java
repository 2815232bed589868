import java.lang.reflect.Method;
import java.util.ArrayList;
import java.util.Arrays;
import java.util.HashMap;
import java.util.List;
import java.util.Map;
import java.util.Set;

/** One object under the calls of src/test/edges, and in the end twins of it that show whether questions changed it. */
final class EdgeRun {
    private static final int MOST_CALLS = 512;
    private static final Map<String, Method> METHODS = new HashMap<>();
    /** Calls that only ask: without them the object must be as it is. */
    private static final Set<String> QUESTIONS = Set.of("of", "chain", "creak", "rides", "ride", "who", "best", "keepBy",
        "lightest", "ways", "can", "most", "clashes", "hand", "handBest", "judge", "keptOn", "whose", "byTurns", "loudest",
        "drawn", "led", "trace", "element", "taken", "count");
    private static final Map<String, Long> WORDS = Map.of("BAD", -1L, "NOT", -2L, "FULL", -3L, "STATE", -5L,
        "VOID", -2000000000L, "MIN", (long) Integer.MIN_VALUE, "MAX", (long) Integer.MAX_VALUE,
        "LMIN", Long.MIN_VALUE, "LMAX", Long.MAX_VALUE);
    private static int asked;

    static {
        for (Method m : ChainsHold.class.getMethods()) {
            if (m.getDeclaringClass() == ChainsHold.class) {
                METHODS.put(m.getName(), m);
            }
        }
    }

    private record Call(String name, long[] args, boolean changesNothing) {
    }

    private final String quote;
    private final ChainsHold x = new ChainsHold();
    private final List<Call> calls = new ArrayList<>();
    private final List<String> faults = new ArrayList<>();

    EdgeRun(String quote) {
        this.quote = quote;
    }

    String quote() {
        return quote;
    }

    static int asked() {
        return asked;
    }

    // ---- lines

    List<String> play(String line) throws ReflectiveOperationException {
        faults.clear();
        String[] words = line.split("\\s+");
        if (words[0].equals("goes")) {
            EdgeLaw.goesOn(words[1], words[2], faults);
            return faults;
        }
        int sign = words.length - 1;
        while (sign > 0 && !words[sign].equals("=") && !words[sign].equals("!")) {
            sign--;
        }
        String[] head = Arrays.copyOf(words, sign == 0 ? words.length : sign);
        String[] dues = sign == 0 ? new String[0] : Arrays.copyOfRange(words, sign + 1, words.length);
        switch (head[0]) {
            case "read": readLaw(head[1], number(dues[0])); break;
            case "value": valueOf(head, number(dues[0])); break;
            case "fill": fill(head); break;
            default: playCalls(head, answers(dues), words[sign].equals("!"));
        }
        return faults;
    }

    private void playCalls(String[] head, List<Long> dues, boolean refused) throws ReflectiveOperationException {
        List<long[]> all = argumentsOf(head);
        if (all.size() == 1) {
            for (long due : dues) {
                ask(head[0], refused, due, all.get(0));
            }
            return;
        }
        if (dues.size() != 1 && dues.size() != all.size()) {
            throw new IllegalArgumentException(all.size() + " calls, " + dues.size() + " answers");
        }
        for (int i = 0; i < all.size(); i++) {
            ask(head[0], refused, dues.get(dues.size() == 1 ? 0 : i), all.get(i));
        }
    }

    /** What stands as a..b goes from a to b, the last one fastest. */
    private static List<long[]> argumentsOf(String[] head) {
        List<long[]> all = new ArrayList<>();
        all.add(new long[0]);
        for (int w = 1; w < head.length; w++) {
            int dots = head[w].indexOf("..");
            List<Long> values = dots < 0 ? List.of(number(head[w]))
                : range(number(head[w].substring(0, dots)), number(head[w].substring(dots + 2)));
            List<long[]> longer = new ArrayList<>();
            for (long[] args : all) {
                for (long v : values) {
                    long[] more = Arrays.copyOf(args, args.length + 1);
                    more[args.length] = v;
                    longer.add(more);
                }
            }
            all = longer;
        }
        return all;
    }

    private static List<Long> answers(String[] dues) {
        List<Long> all = new ArrayList<>();
        for (int i = 0; i < dues.length; i++) {
            if (dues[i].equals("..")) {
                long from = all.remove(all.size() - 1);
                all.addAll(range(from, number(dues[++i])));
            } else {
                all.add(number(dues[i]));
            }
        }
        return all;
    }

    private static List<Long> range(long a, long b) {
        List<Long> all = new ArrayList<>();
        for (long v = a; a <= b ? v <= b : v >= b; v += a <= b ? 1 : -1) {
            all.add(v);
        }
        return all;
    }

    private static long number(String word) {
        return WORDS.containsKey(word) ? WORDS.get(word) : word.startsWith("0x") ? Long.decode(word) : Long.parseLong(word);
    }

    private void readLaw(String text, long due) throws ReflectiveOperationException {
        for (int i = 0; i < text.length(); i++) {
            call("feed", false, text.charAt(i));
        }
        ask("law", false, due);
    }

    private void valueOf(String[] head, long due) throws ReflectiveOperationException {
        readLaw(head[3], 1);
        ask("creak", false, due, number(head[1]), number(head[2]));
    }

    private void fill(String[] head) throws ReflectiveOperationException {
        ask("row", false, 1, number(head[1]), number(head[2]), head.length - 3);
        for (int i = 3; i < head.length; i++) {
            ask("put", false, 1, number(head[1]), i - 3, number(head[i]));
        }
    }

    // ---- calls

    private void ask(String name, boolean refused, long due, long... args) throws ReflectiveOperationException {
        asked++;
        long got = call(name, refused, args);
        if (got != due) {
            faults.add(name + Arrays.toString(args) + " answered " + got + ", due is " + due);
        }
    }

    private long call(String name, boolean refused, long... args) throws ReflectiveOperationException {
        calls.add(new Call(name, args, refused || QUESTIONS.contains(name)));
        return callOn(x, name, args);
    }

    private static long callOn(ChainsHold object, String name, long... args) throws ReflectiveOperationException {
        Method m = METHODS.get(name);
        Object[] given = new Object[args.length];
        for (int i = 0; i < args.length; i++) {
            if (m.getParameterTypes()[i] == long.class) {
                given[i] = args[i];
            } else {
                given[i] = Math.toIntExact(args[i]);
            }
        }
        return ((Number) m.invoke(object, given)).longValue();
    }

    // ---- twins

    /** Two twins, one with all calls, one without those that should change nothing, must answer all alike. */
    List<String> end() throws ReflectiveOperationException {
        faults.clear();
        for (int look = 0; look < LOOKS; look++) {
            List<String> all = lookAt(twin(true), look);
            List<String> less = lookAt(twin(false), look);
            if (calls.size() + all.size() > MOST_CALLS) {
                faults.add(calls.size() + " calls and " + all.size() + " to look at it are more than the document lets be");
            }
            for (int i = 0; i < all.size(); i++) {
                asked++;
                if (!all.get(i).equals(less.get(i))) {
                    faults.add("what should change nothing did: " + all.get(i) + ", without it " + less.get(i));
                }
            }
        }
        return faults;
    }

    private ChainsHold twin(boolean whole) throws ReflectiveOperationException {
        ChainsHold twin = new ChainsHold();
        for (Call c : calls) {
            if (whole || !c.changesNothing) {
                callOn(twin, c.name, c.args);
            }
        }
        return twin;
    }

    private static final int LOOKS = 9;

    private static List<String> lookAt(ChainsHold twin, int look) throws ReflectiveOperationException {
        List<String> seen = new ArrayList<>();
        switch (look) {
            case 0: lookAtNumbers(twin, seen); see(twin, seen, "trace 0..24"); break;
            case 1: see(twin, seen, "creak 0..9 99", "chain 0..5 99 2", "feed 55", "law", "creak 0..9 99"); break;
            case 2: see(twin, seen, "law", "creak 0..9 99"); break;
            case 3: seeOften(twin, seen, "undo"); lookAtNumbers(twin, seen); break;
            case 4: seeOften(twin, seen, "redo"); lookAtNumbers(twin, seen); break;
            case 5: see(twin, seen, "back"); lookAtNumbers(twin, seen); break;
            case 6: see(twin, seen, "act 0..49 3 7", "count 5"); break;
            case 7: lookAtShelves(twin, seen, "0..2"); break;
            default: lookAtShelves(twin, seen, "3..5"); break;
        }
        return seen;
    }

    private static void lookAtNumbers(ChainsHold twin, List<String> seen) throws ReflectiveOperationException {
        see(twin, seen, "count 0..5", "led 0..4", "of 0..5 0..2", "of 0..9 3..8");
    }

    private static void lookAtShelves(ChainsHold twin, List<String> seen, String shelves) throws ReflectiveOperationException {
        see(twin, seen, "taken " + shelves + " 0", "element " + shelves + " 0..60", "put " + shelves + " 0 0x7181818181818181",
            "element " + shelves + " 0");
    }

    private static void seeOften(ChainsHold twin, List<String> seen, String line) throws ReflectiveOperationException {
        for (int k = 0; k < 41; k++) {
            see(twin, seen, line);
        }
    }

    private static void see(ChainsHold twin, List<String> seen, String... lines) throws ReflectiveOperationException {
        for (String line : lines) {
            String[] head = line.split(" ");
            for (long[] args : argumentsOf(head)) {
                seen.add(head[0] + Arrays.toString(args) + " answers " + callOn(twin, head[0], args));
            }
        }
    }
}
