import java.lang.reflect.Constructor;
import java.lang.reflect.Field;
import java.lang.reflect.Member;
import java.lang.reflect.Method;
import java.lang.reflect.Modifier;
import java.nio.file.Files;
import java.nio.file.Path;
import java.util.Arrays;
import java.util.HashSet;
import java.util.Set;
import java.util.TreeSet;

/** The face: all that the document lists, and nothing else that could be seen from outside (LANGUAGE.md, rule 1). */
public final class FaceTest {
    private static final String FACE =
        "int person(int,int)|int promise(int,int)|int promises(int,int,int)|int mend(int,int,int)|int of(int,int)|"
        + "int feed(int)|int law()|int chain(int,int,int)|int creak(int,int)|int rides(int,int,int)|int ride(int,int)|"
        + "int who(int)|int best(int)|int keepBy(int,int,int)|int lightest(int,int,int)|int ways(int,int)|"
        + "int can(int,int)|int most(int,int)|int clashes(int,int)|int hand(int,int)|int handBest(int,int)|"
        + "int judge(int,int)|int keptOn(int,int,int,int)|int whose(int)|int byTurns(int,int,int)|int loudest(int)|"
        + "int drawn(int,int,int,int)|int passes()|int vow(int,int)|int kept(int)|int led(int)|int image()|int back()|"
        + "int undo()|int redo()|int body(int)|int act(int,int,int)|int trace(int)|int keep(int,int)|"
        + "int row(int,int,int)|int put(int,int,long)|long element(int,int)|int shift(int,int,int,int,int)|"
        + "int taken(int,int)|int count(int)";

    private FaceTest() {
    }

    public static void main(String[] args) throws Exception {
        Check check = new Check();
        Set<String> due = new TreeSet<>(Arrays.asList(FACE.split("\\|")));
        check.due("the document's methods " + faceOfDocument(), faceOfDocument().equals(due) ? 1 : 0, 1);
        Set<String> found = new TreeSet<>();
        Set<String> publicNames = new HashSet<>();
        int hidden = 0;
        for (Method m : ChainsHold.class.getDeclaredMethods()) {
            if (Modifier.isPublic(m.getModifiers())) {
                publicNames.add(m.getName());
                found.add(m.getReturnType() + " " + m.getName() + "(" + String.join(",",
                    Arrays.stream(m.getParameterTypes()).map(Class::getName).toArray(String[]::new)) + ")");
            } else {
                hidden += isPrivate(m) ? 0 : 1;
            }
        }
        check.due("public methods " + found, found.equals(due) ? 1 : 0, 1);
        for (Field f : ChainsHold.class.getDeclaredFields()) {
            boolean constant = Arrays.asList("BAD", "NOT", "FULL", "STATE", "VOID").contains(f.getName());
            hidden += constant ? isConstant(f) ? 0 : 1 : isPrivate(f) ? 0 : 1;
        }
        for (Constructor<?> c : ChainsHold.class.getDeclaredConstructors()) {
            hidden += Modifier.isPublic(c.getModifiers()) && c.getParameterCount() == 0 ? 0 : 1;
        }
        check.due("members that should not be seen", hidden, 0);
        check.due("final", Modifier.isFinal(ChainsHold.class.getModifiers()) ? 1 : 0, 1);
        for (Class<?> inside : ChainsHold.class.getDeclaredClasses()) {
            check.due(inside + " is static, not public", Modifier.isStatic(inside.getModifiers())
                && !Modifier.isPublic(inside.getModifiers()) && !Modifier.isProtected(inside.getModifiers()) ? 1 : 0, 1);
            for (Method m : inside.getDeclaredMethods()) {
                check.due(m + " bears the name of a public one", publicNames.contains(m.getName()) ? 1 : 0, 0);
            }
        }
        constants(check);
        check.end("FaceTest");
    }

    /** The methods of the document's face, written as FACE is. */
    private static Set<String> faceOfDocument() throws Exception {
        Set<String> face = new TreeSet<>();
        for (String line : Files.readAllLines(Path.of("../shared/DOC.md"))) {
            if (line.matches("    public (int|long) \\w+\\(.*\\);")) {
                face.add(line.replaceAll("public |;|^ +| \\w+(?=[,)])", "").replace(", ", ","));
            }
        }
        return face;
    }

    private static boolean isPrivate(Member m) {
        return Modifier.isPrivate(m.getModifiers());
    }

    private static boolean isConstant(Field f) {
        int all = Modifier.PUBLIC | Modifier.STATIC | Modifier.FINAL;
        return f.getType() == int.class && (f.getModifiers() & all) == all;
    }

    private static void constants(Check check) {
        check.due("BAD", ChainsHold.BAD, -1);
        check.due("NOT", ChainsHold.NOT, -2);
        check.due("FULL", ChainsHold.FULL, -3);
        check.due("STATE", ChainsHold.STATE, -5);
        check.due("VOID", ChainsHold.VOID, -2000000000);
    }
}
