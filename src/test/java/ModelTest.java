import java.lang.reflect.Method;
import java.lang.reflect.Modifier;
import java.util.ArrayList;
import java.util.Arrays;
import java.util.Collections;
import java.util.HashMap;
import java.util.List;
import java.util.Map;
import java.util.Random;

/** Runs of drawn calls (the seeds are told, so each run is the same each time): ChainsHold against PlainModel. */
public final class ModelTest {
    private static final int RUNS = Integer.getInteger("runs", 250);
    private static final int CALLS = 512;
    private static final int[] WILD = {Integer.MIN_VALUE, Integer.MIN_VALUE + 1, -1000, -101, -100, -15, -11, -10, -9, -3,
        -2, -1, 0, 1, 5, 6, 7, 8, 9, 10, 11, 50, 59, 60, 61, 99, 100, 101, 120, 255, 256, 999, 1000, 1023, 1024, 9999, 10000,
        Integer.MAX_VALUE - 3, Integer.MAX_VALUE - 1, Integer.MAX_VALUE};

    private final Random random;
    private final ChainsHold real = new ChainsHold();
    private final PlainModel plain = new PlainModel();
    private final List<String> told = new ArrayList<>();
    private final Map<String, Method> reals;
    private final Map<String, Method> plains;
    private int people;
    private int vows;
    private int calls;
    private boolean wrong;

    private ModelTest(long seed, Map<String, Method> reals, Map<String, Method> plains) {
        random = new Random(seed);
        this.reals = reals;
        this.plains = plains;
    }

    public static void main(String[] args) {
        Map<String, Method> reals = methodsOf(ChainsHold.class);
        Map<String, Method> plains = methodsOf(PlainModel.class);
        Map<String, Integer> answered = new HashMap<>();
        if (!reals.keySet().equals(plains.keySet())) {
            System.out.println("the model has other calls than the class");
            System.exit(1);
        }
        int wrongRuns = 0;
        for (int run = 0; run < RUNS && wrongRuns < 3; run++) {
            ModelTest test = new ModelTest(run, reals, plains);
            test.play(answered);
            if (test.wrong) {
                wrongRuns++;
                System.out.println("run " + run + ": " + String.join("\n  ", test.told));
            }
        }
        if (Boolean.getBoolean("seen")) {
            answered.keySet().stream().sorted().forEach(k -> System.out.println(k + " x" + answered.get(k)));
        }
        System.out.println(RUNS + " runs of " + CALLS + " calls: " + wrongRuns + " were wrong");
        if (wrongRuns != 0) {
            System.exit(1);
        }
    }

    private static Map<String, Method> methodsOf(Class<?> from) {
        Map<String, Method> methods = new HashMap<>();
        for (Method m : from.getDeclaredMethods()) {
            if (Modifier.isPublic(m.getModifiers())) {
                methods.put(m.getName() + "/" + m.getParameterCount(), m);
                m.setAccessible(true);
            }
        }
        return methods;
    }

    private void play(Map<String, Integer> answered) {
        List<String> names = new ArrayList<>(reals.keySet());
        names.sort(String::compareTo);
        if (random.nextInt(8) != 0) {
            settle();
        }
        if (random.nextInt(3) == 0) {
            // few sorts of calls, many of each: limits are reached
            Collections.shuffle(names, random);
            names = names.subList(0, 4 + random.nextInt(8));
        }
        while (calls < CALLS && !wrong) {
            int dice = random.nextInt(60);
            if (dice == 0) {
                feedLaw();
            } else if (dice == 1) {
                fillBook();
            } else if (dice == 2) {
                fillBytes();
            } else if (dice == 3) {
                for (int k = random.nextInt(12); k >= 0; k--) {
                    call("passes/0");
                }
            } else {
                String name = names.get(random.nextInt(names.size()));
                long got = call(name, argsFor(name));
                String sort = name + " " + (got < 0 && got > -20 || got == ChainsHold.VOID ? Long.toString(got) : "other");
                answered.merge(sort, 1, Integer::sum);
            }
        }
    }

    private void settle() {
        int n = random.nextBoolean() ? 6 : 1 + random.nextInt(6);
        for (int k = 0; k < n; k++) {
            call("person/2", random.nextInt(12), 1 + random.nextInt(25));
        }
        int m = random.nextBoolean() ? 10 : random.nextInt(11);
        int span = random.nextBoolean() ? 100 : 20;
        for (int k = 0; k < m; k++) {
            int made = random.nextInt(span);
            int due = made + random.nextInt(Math.min(100 - made, span / 2));
            int whose = random.nextInt(3) == 0 ? random.nextInt(n) : 0;
            call("promise/2", 10 * whose + 1 + random.nextInt(9), 100 * made + due);
        }
        for (int k = random.nextInt(8); k > 0; k--) {
            call("mend/3", random.nextInt(10), 2 + random.nextInt(5), random.nextInt(30) - 1);
        }
    }

    private long call(String name, long... args) {
        if (calls >= CALLS || wrong) {
            return 0;
        }
        calls++;
        Method m = reals.get(name);
        Object[] given = new Object[args.length];
        for (int i = 0; i < args.length; i++) {
            given[i] = m.getParameterTypes()[i] == long.class ? (Object) args[i] : (Object) (int) args[i];
        }
        long got;
        long due;
        try {
            due = ((Number) plains.get(name).invoke(plain, given)).longValue();
            got = ((Number) m.invoke(real, given)).longValue();
        } catch (ReflectiveOperationException e) {
            told.add(name + Arrays.toString(args) + " threw " + e.getCause());
            wrong = true;
            return 0;
        }
        if (got != due) {
            told.add(name + Arrays.toString(args) + " answered " + got + ", the model " + due);
            wrong = true;
        } else {
            told.add(name + Arrays.toString(args) + " = " + got);
        }
        people += name.equals("person/2") && got >= 0 ? 1 : 0;
        vows = plain.count(1);
        return got;
    }

    // ---- what a call may be given

    private int wild() {
        return random.nextInt(4) == 0 ? random.nextInt() : WILD[random.nextInt(WILD.length)];
    }

    private int upTo(int n) {
        if (random.nextInt(25) == 0) {
            return wild();
        }
        return random.nextInt(Math.max(1, n + (random.nextInt(12) == 0 ? 1 : 0)));
    }

    private int one() {
        return upTo(people);
    }

    private int vow() {
        return upTo(vows);
    }

    private int day() {
        return upTo(100);
    }

    private int what(int n) {
        return upTo(n);
    }

    private int shelf() {
        return random.nextInt(3) == 0 ? upTo(6) : upTo(3);
    }

    private long[] argsFor(String name) {
        switch (name.substring(0, name.indexOf('/'))) {
            case "person": return of(upTo(31), upTo(61));
            case "promise": return of(10 * one() + upTo(10), 100 * upTo(40) + upTo(100));
            case "promises": return of(shelf(), upTo(62) - 1, upTo(11));
            case "mend": return mending();
            case "of": return of(upTo(10), what(9));
            case "feed": return of(random.nextBoolean() ? "o+1;?(".charAt(random.nextInt(6)) : upTo(256));
            case "chain": return of(one(), day(), what(4));
            case "creak": return of(vow(), day());
            case "rides": return of(one(), day(), random.nextInt(3) == 0 ? -1 : day());
            case "ride": return of(one(), what(2));
            case "who": case "trace": return of(upTo(name.startsWith("who") ? 100 : 15));
            case "best": case "loudest": return of(what(2));
            case "keepBy": case "lightest": return of(one(), day(), what(2));
            case "ways": return of(one(), day());
            case "can": return canning();
            case "most": case "clashes": return of(one(), what(2));
            case "hand": return of(random.nextInt(20) == 0 ? wild() : 100 * vow() + one(), day());
            case "handBest": return of(day(), what(2));
            case "judge": return of(shelf(), one());
            case "keptOn": return of(shelf(), vow(), one(), what(2));
            case "whose": return of(shelf());
            case "byTurns": return of(one(), random.nextInt(20) == 0 ? wild() : 10 * day() + upTo(7), what(2));
            case "drawn": return of(random.nextInt(), upTo(31), one(), random.nextBoolean() ? -1 : day());
            case "vow": return of(10 * one() + upTo(10), Math.min(99, plain.led(4) + upTo(30) - 1));
            case "kept": return of(vow());
            case "led": return of(what(5));
            case "body": return of(what(8));
            case "act": return of(upTo(plain.count(4)), what(4), wild());
            case "keep": return of(shelf(), upTo(plain.count(4) + 1) - 1);
            case "row": return of(shelf(), what(5), upTo(62) - random.nextInt(2));
            case "put": return new long[] {shelf(), upTo(60), random.nextBoolean() ? random.nextLong() : wild()};
            case "element": return of(shelf(), upTo(60));
            case "shift": return of(shelf(), upTo(30), shelf(), upTo(30), upTo(30) - random.nextInt(2));
            case "taken": return of(shelf(), what(8));
            case "count": return of(what(6));
            default: return new long[0];
        }
    }

    private static long[] of(int... v) {
        return Arrays.stream(v).asLongStream().toArray();
    }

    private long[] mending() {
        int[] reach = {31, 61, 10, 100, 10, 101, people + 1, 3, 3};
        int what = what(7);
        int v = what >= 0 && what < 9 ? upTo(reach[what]) - (what >= 5 ? 1 : 0) : wild();
        if (random.nextInt(4) == 0 && plain.of(0, what) != PlainModel.VOID) {
            v = plain.of(0, what);
        }
        return of(what < 3 ? one() : vow(), what, v);
    }

    private long[] canning() {
        int one = one();
        int his = 0;
        for (int p = 0; p < vows; p++) {
            his |= plain.of(p, 7) == one ? 1 << p : 0;
        }
        return of(one, random.nextInt(6) == 0 ? wild() : his & (random.nextInt(1024) | random.nextInt(1024)));
    }

    // ---- several calls on end

    private void feedLaw() {
        call("law/0");
        StringBuilder text = new StringBuilder();
        int lines = 1 + random.nextInt(3);
        for (int k = 0; k < lines; k++) {
            text.append(k > 0 ? ";" : "").append(expression(0));
            if (random.nextBoolean()) {
                text.append('?').append(expression(0));
            }
        }
        if (random.nextInt(3) == 0 && text.length() > 0) {
            text.setCharAt(random.nextInt(text.length()), "olcrtp0123456789+-*/%<=>|&!()?;x ".charAt(random.nextInt(33)));
        }
        if (random.nextInt(8) == 0) {
            text.setLength(random.nextInt(text.length() + 1));
        }
        for (int k = 0; k < text.length() && k < 121; k++) {
            call("feed/1", text.charAt(k));
        }
        call("law/0");
        call("loudest/1", 0);
        call("loudest/1", 1);
        for (int k = 0; k < 4; k++) {
            call("creak/2", vow(), day());
        }
    }

    private String expression(int depth) {
        int dice = random.nextInt(depth > 6 ? 4 : 14);
        if (dice < 2) {
            return String.valueOf("olcrtp".charAt(random.nextInt(6)));
        }
        if (dice < 4) {
            return String.valueOf(random.nextInt(random.nextBoolean() ? 12 : 10000));
        }
        if (dice == 4) {
            return "(" + expression(depth + 1) + ")";
        }
        if (dice == 5) {
            return "!" + expression(depth + 1);
        }
        if (dice == 6) {
            return "-" + expression(depth + 1);
        }
        return expression(depth + 2) + "+-*/%<=>|&".charAt(random.nextInt(10)) + expression(depth + 2);
    }

    private void fillBook() {
        int shelf = random.nextInt(3);
        int one = random.nextInt(Math.max(1, people));
        int n = random.nextInt(61);
        call("row/3", shelf, 1, n);
        for (int d = 0; d < n; d++) {
            int loud = plain.chain(one, d, 2);
            if (loud != 0) {
                call("put/3", shelf, d, random.nextInt(150) == 0 ? loud + 1 : loud);
            }
        }
        call("judge/2", shelf, one);
        call("whose/1", shelf);
        for (int k = 0; k < 3; k++) {
            int promise = vow();
            call("keptOn/4", shelf, promise, one, 0);
            call("keptOn/4", shelf, promise, one, 1);
        }
    }

    private void fillBytes() {
        int shelf = random.nextInt(3);
        int n = random.nextInt(45);
        call("row/3", shelf, 0, n);
        for (int at = 0; at + 3 < n; at += 4) {
            int made = random.nextInt(60);
            call("put/3", shelf, at, one());
            call("put/3", shelf, at + 1, made);
            call("put/3", shelf, at + 2, made + random.nextInt(40));
            call("put/3", shelf, at + 3, upTo(10));
        }
        call("promises/3", shelf, random.nextInt(4) == 0 ? upTo(40) : 0, upTo(11));
        call("count/1", 1);
    }
}
