import java.util.ArrayList;
import java.util.LinkedHashMap;
import java.util.LinkedHashSet;
import java.util.List;
import java.util.Map;
import java.util.Set;
import javax.lang.model.element.ElementKind;
import javax.lang.model.element.ExecutableElement;
import javax.lang.model.element.Modifier;

/** Who calls whom in the class: how deep calls go, and whether those that are recursion are so as LANGUAGE.md lets them be. */
final class CallDepth {
    private static final int MOST_DEEP = 8;

    private final Map<ExecutableElement, Set<ExecutableElement>> callees = new LinkedHashMap<>();
    private final Map<ExecutableElement, List<ExecutableElement>> deepest = new LinkedHashMap<>();

    void add(ExecutableElement method) {
        callees.computeIfAbsent(method, m -> new LinkedHashSet<>());
    }

    void add(ExecutableElement caller, ExecutableElement callee) {
        callees.computeIfAbsent(caller, m -> new LinkedHashSet<>()).add(callee);
        add(callee);
    }

    void lookAt(Check check) {
        for (ExecutableElement m : callees.keySet()) {
            check.promise(8);
            if (callees.get(m).contains(m)) {
                check.due(nameOf(m) + " calls itself: private static", isPrivate(m)
                    && m.getModifiers().contains(Modifier.STATIC) ? 1 : 0, 1);
            } else if (reaches(m, m)) {
                check.due(nameOf(m) + " is called again by those that it calls: private", isPrivate(m) ? 1 : 0, 1);
            }
            check.promise(11);
            boolean seen = m.getModifiers().contains(Modifier.PUBLIC) || m.getKind() == ElementKind.CONSTRUCTOR;
            int deep = seen ? chainFrom(m).size() : 0;
            check.due("calls " + deep + " deep: " + (seen ? chainFrom(m) : m), deep <= MOST_DEEP ? 1 : 0, 1);
        }
    }

    private static String nameOf(ExecutableElement m) {
        return m.getEnclosingElement().getSimpleName() + "." + m.getSimpleName();
    }

    private static boolean isPrivate(ExecutableElement m) {
        return m.getModifiers().contains(Modifier.PRIVATE);
    }

    private boolean reaches(ExecutableElement from, ExecutableElement to) {
        Set<ExecutableElement> seen = new LinkedHashSet<>();
        List<ExecutableElement> open = new ArrayList<>(callees.get(from));
        while (!open.isEmpty()) {
            ExecutableElement m = open.remove(open.size() - 1);
            if (m.equals(to)) {
                return true;
            }
            if (seen.add(m)) {
                open.addAll(callees.get(m));
            }
        }
        return false;
    }

    /** The longest chain of calls; methods that are one recursion count as one link of it. */
    private List<ExecutableElement> chainFrom(ExecutableElement m) {
        List<ExecutableElement> known = deepest.get(m);
        if (known != null) {
            return known;
        }
        List<ExecutableElement> longest = new ArrayList<>();
        for (ExecutableElement of : recursionOf(m)) {
            for (ExecutableElement callee : callees.get(of)) {
                if (!reaches(callee, m)) {
                    List<ExecutableElement> chain = chainFrom(callee);
                    longest = chain.size() > longest.size() ? chain : longest;
                }
            }
        }
        List<ExecutableElement> all = new ArrayList<>();
        all.add(m);
        all.addAll(longest);
        deepest.put(m, all);
        return all;
    }

    private Set<ExecutableElement> recursionOf(ExecutableElement m) {
        Set<ExecutableElement> group = new LinkedHashSet<>();
        group.add(m);
        for (ExecutableElement other : callees.keySet()) {
            if (reaches(m, other) && reaches(other, m)) {
                group.add(other);
            }
        }
        return group;
    }
}
