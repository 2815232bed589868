import com.sun.management.ThreadMXBean;
import java.lang.management.ManagementFactory;
import java.lang.reflect.Array;
import java.lang.reflect.Field;
import java.lang.reflect.Modifier;
import java.util.ArrayList;
import java.util.Collections;
import java.util.IdentityHashMap;
import java.util.List;
import java.util.Set;

/**
 * "All memory is the class's own", and "An object is used for at most 512 calls": what an object holds is made with it, no
 * other object sees any of it, no call makes more, and the 512th call answers as the first ones did.
 */
public final class MemoryTest {
    private static final int CALLS = 512;
    /** What one object may take of a run's room of 600,000 objects and 7,300,000 fields and elements. */
    private static final int MOST_OBJECTS = 100, MOST_ELEMENTS = 4000;

    private final Check check = new Check();

    private MemoryTest() {
    }

    public static void main(String[] args) throws IllegalAccessException {
        MemoryTest test = new MemoryTest();
        test.nothingIsShared();
        test.nothingIsMadeByCalls();
        test.noMemoryIsTakenByCalls();
        test.sideBySide();
        test.lastCalls();
        test.check.end("MemoryTest");
    }

    private void due(String call, long got, long want) {
        check.due(call, got, want);
    }

    // ---- what an object holds

    private void nothingIsShared() throws IllegalAccessException {
        ChainsHold first = new ChainsHold();
        ChainsHold second = new ChainsHold();
        fullHouse(first);
        Set<Object> ofFirst = heldBy(first);
        int shared = 0;
        for (Object held : heldBy(second)) {
            shared += ofFirst.contains(held) ? 1 : 0;
        }
        due("objects that two share", shared, 0);
        for (Class<?> c : classes()) {
            for (Field f : c.getDeclaredFields()) {
                boolean mayStand = !Modifier.isStatic(f.getModifiers()) || Modifier.isFinal(f.getModifiers());
                due(c.getName() + "." + f.getName() + " is of one object, or a constant", mayStand ? 1 : 0, 1);
            }
        }
    }

    private void nothingIsMadeByCalls() throws IllegalAccessException {
        ChainsHold x = new ChainsHold();
        Set<Object> atFirst = heldBy(x);
        fullHouse(x);
        everyCall(x);
        Set<Object> later = heldBy(x);
        due("objects held", later.size(), atFirst.size());
        due("objects that came", later.stream().filter(o -> !atFirst.contains(o)).count(), 0);
        long elements = 0;
        for (Object held : later) {
            elements += held.getClass().isArray() ? Array.getLength(held) : fieldsOf(held).size();
        }
        due("objects of one ChainsHold, " + later.size(), later.size() <= MOST_OBJECTS ? 1 : 0, 1);
        due("fields and elements of one ChainsHold, " + elements, elements <= MOST_ELEMENTS ? 1 : 0, 1);
    }

    private static List<Class<?>> classes() {
        List<Class<?>> all = new ArrayList<>(List.of(ChainsHold.class.getDeclaredClasses()));
        all.add(ChainsHold.class);
        return all;
    }

    private static List<Field> fieldsOf(Object held) {
        List<Field> fields = new ArrayList<>();
        for (Field f : held.getClass().getDeclaredFields()) {
            if (!Modifier.isStatic(f.getModifiers())) {
                f.setAccessible(true);
                fields.add(f);
            }
        }
        return fields;
    }

    private static Set<Object> heldBy(ChainsHold x) throws IllegalAccessException {
        Set<Object> held = Collections.newSetFromMap(new IdentityHashMap<>());
        List<Object> open = new ArrayList<>(List.of(x));
        while (!open.isEmpty()) {
            Object o = open.remove(open.size() - 1);
            if (!held.add(o) || o.getClass().isArray()) {
                continue;
            }
            for (Field f : fieldsOf(o)) {
                Object there = f.getType().isPrimitive() ? null : f.get(o);
                if (there != null) {
                    open.add(there);
                }
            }
        }
        return held;
    }

    // ---- what calls take

    private void noMemoryIsTakenByCalls() {
        ThreadMXBean threads = (ThreadMXBean) ManagementFactory.getThreadMXBean();
        long me = Thread.currentThread().getId();
        ChainsHold[] all = new ChainsHold[20];
        for (int k = 0; k < all.length; k++) {
            all[k] = new ChainsHold();
            fullHouse(all[k]);
        }
        // what the machine makes when it runs a line for the first time is not the class's
        everyCall(all[0]);
        threads.getThreadAllocatedBytes(me);
        long least = Long.MAX_VALUE;
        for (int k = 1; k < all.length; k++) {
            long ahead = threads.getThreadAllocatedBytes(me);
            everyCall(all[k]);
            least = Math.min(least, threads.getThreadAllocatedBytes(me) - ahead);
        }
        due("bytes that one call of each kind takes", least, 0);
    }

    /** Six people, ten promises, a law, a book, a row of bytes, changes, an image, bodies. */
    private static void fullHouse(ChainsHold x) {
        for (int k = 0; k < 6; k++) {
            x.person(k, 8 + k);
        }
        for (int p = 0; p < 10; p++) {
            x.promise(10 * (p % 3) + 1 + p % 9, 100 * p + 9 + 3 * p);
        }
        String law = "o%3=0?l*2;t|p>4?c;(o+1)/2";
        for (int i = 0; i < law.length(); i++) {
            x.feed(law.charAt(i));
        }
        x.law();
        x.mend(0, 5, 40);
        x.mend(1, 6, 0);
        x.undo();
        x.image();
        for (int kind = 0; kind < 8; kind++) {
            x.body(kind);
        }
        x.row(0, 1, 60);
        x.row(1, 0, 60);
        x.row(2, 1, 60);
        x.keep(3, 7);
    }

    private static long everyCall(ChainsHold x) {
        long sum = x.person(1, 1) + x.promise(1, 0) + x.promises(1, 0, 10) + x.mend(0, 4, 7) + x.mend(0, 4, 8) + x.of(0, 4);
        sum += x.feed('o') + x.feed('+') + x.law() + x.feed('o') + x.law();
        sum += x.chain(0, 50, 0) + x.chain(0, 50, 1) + x.chain(0, 50, 2) + x.chain(0, 50, 3) + x.creak(0, 30);
        sum += x.rides(0, 0, 99) + x.rides(0, 0, -1) + x.ride(0, 0) + x.ride(0, 1) + x.who(9) + x.best(0) + x.best(1);
        sum += x.keepBy(0, 9, 1) + x.lightest(0, 9, 0) + x.ways(0, 9) + x.can(0, 9) + x.most(0, 1) + x.clashes(0, 1);
        sum += x.hand(2, 9) + x.handBest(9, 0) + x.handBest(9, 1) + x.judge(0, 0) + x.keptOn(0, 0, 0, 0) + x.whose(0);
        sum += x.byTurns(0, 96, 0) + x.byTurns(0, 96, 1) + x.loudest(0) + x.loudest(1) + x.drawn(5, 30, 0, -1);
        sum += x.passes() + x.vow(1, 99) + x.kept(0) + x.led(3) + x.image() + x.back() + x.undo() + x.redo();
        sum += x.body(7) + x.act(7, 3, 9) + x.trace(0) + x.keep(4, 7) + x.keep(4, -1) + x.row(5, 3, 60);
        sum += x.put(5, 0, 7) + x.element(5, 0) + x.shift(0, 0, 2, 5, 50) + x.shift(0, 0, 0, 5, 50) + x.taken(3, 4);
        return sum + x.count(0);
    }

    // ---- two at once, and to the last call

    /** Turn by turn two objects answer what each of them answers alone. */
    private void sideBySide() {
        ChainsHold left = new ChainsHold();
        ChainsHold right = new ChainsHold();
        due("person", left.person(3, 12), 0);
        due("its person", right.count(0), 0);
        due("person", right.person(8, 10), 0);
        due("promise", left.promise(9, 40), 0);
        due("the other one's chain", right.chain(0, 0, 0), 8);
        due("promise", right.promise(2, 510), 0);
        due("feed", left.feed('o'), 1);
        due("feed", right.feed('l'), 1);
        due("law", left.law(), 1);
        due("the other one's tape", right.count(2), 1);
        due("creak by the other one's law", left.creak(0, 60), 20);
        due("law", right.law(), 1);
        due("creak", right.creak(0, 60), 2);
        due("creak", left.creak(0, 60), 20);
        due("mend", left.mend(0, 4, 5), 9);
        due("the other one's undo", right.undo(), ChainsHold.STATE);
        due("image", left.image(), 0);
        due("the other one's back", right.back(), ChainsHold.STATE);
        due("passes", left.passes(), 1);
        due("the other one's NOW", right.led(4), 0);
        due("body", left.body(2), 0);
        due("act", left.act(0, 1, 3), -6);
        due("the other one's trace", right.trace(0), ChainsHold.BAD);
        due("the other one's act", right.act(0, 1, 3), 0);
        due("trace", left.trace(0), 30);
        due("row", left.row(0, 2, 3), 1);
        due("the other one's shelf", right.element(0, 0), Long.MIN_VALUE);
        due("row", right.row(0, 2, 3), 1);
        due("put", left.put(0, 1, 77), 1);
        due("the other one's element", right.element(0, 1), 0);
    }

    /** Calls 1 to 512 on one object, the dearest ones among them; the last ones answer as the first ones. */
    private void lastCalls() {
        ChainsHold x = new ChainsHold();
        due("person", x.person(5, 9), 0);
        due("promise", x.promise(4, 40), 0);
        int calls = 2;
        // OPEN on all days, over DUE from 41 on: 1 + 4 on 41, 59 + 4 on 99
        while (calls <= CALLS - 8) {
            due("chain in call " + ++calls, x.chain(0, 99, 0), 9);
            due("loudest in call " + ++calls, x.loudest(1), 63);
            due("byTurns in call " + ++calls, x.byTurns(0, 996, 0), 0);
            due("keepBy in call " + ++calls, x.keepBy(0, 99, 0), 0);
            due("most in call " + ++calls, x.most(0, 1), 1);
            due("drawn in call " + ++calls, x.drawn(0, 1, 0, -1), 48);
            due("best in call " + ++calls, x.best(1), 1);
        }
        while (calls < CALLS) {
            due("passes in call " + ++calls, x.passes() > 0 ? 1 : 0, 1);
        }
        due("calls", calls, CALLS);
    }
}
