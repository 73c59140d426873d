import java.lang.reflect.Constructor;
import java.lang.reflect.Field;
import java.lang.reflect.Method;
import java.lang.reflect.Modifier;
import java.util.Set;
import java.util.TreeSet;

/** The class has the public face of the document, and no other member that can be seen from outside. */
public final class FaceTest {
    private static int wrong = 0;

    private static void due(String what, Object got, Object want) {
        if (!got.equals(want)) {
            wrong++;
            System.out.println(what + ": " + got + ", due is " + want);
        }
    }

    public static void main(String[] args) {
        due("class modifiers", Modifier.toString(BestPairs.class.getModifiers()), "public final");
        due("members", visibleMembers(), dueMembers());
        due("nested classes", BestPairs.class.getDeclaredClasses().length, 0);
        due("NONE", BestPairs.NONE, -1);
        due("FULL", BestPairs.FULL, -2);
        System.out.println(wrong == 0 ? "all answers are as due" : wrong + " answers are not as due");
        if (wrong != 0) {
            System.exit(1);
        }
    }

    private static Set<String> dueMembers() {
        return new TreeSet<>(Set.of(
            "public static final int BestPairs.NONE",
            "public static final int BestPairs.FULL",
            "public BestPairs()",
            "public int BestPairs.enter(int,int,int)",
            "public boolean BestPairs.remove(int,int)",
            "public boolean BestPairs.rescore(int,int,int)",
            "public boolean BestPairs.weigh(int,int)",
            "public int BestPairs.entries(int)",
            "public int BestPairs.score(int,int)",
            "public int BestPairs.next()",
            "public int BestPairs.passed()",
            "public int BestPairs.lastValue()",
            "public void BestPairs.rewind()",
            "public int BestPairs.pairAt(int)",
            "public int BestPairs.pairs()",
            "public int BestPairs.atLeast(int)",
            "public int BestPairs.bestPlace(int,int)"));
    }

    private static Set<String> visibleMembers() {
        Set<String> seen = new TreeSet<>();
        for (Field field : BestPairs.class.getDeclaredFields()) {
            if (!Modifier.isPrivate(field.getModifiers())) {
                seen.add(field.toString());
            }
        }
        for (Constructor<?> constructor : BestPairs.class.getDeclaredConstructors()) {
            if (!Modifier.isPrivate(constructor.getModifiers())) {
                seen.add(constructor.toString());
            }
        }
        for (Method method : BestPairs.class.getDeclaredMethods()) {
            if (!Modifier.isPrivate(method.getModifiers())) {
                seen.add(method.toString());
            }
        }
        return seen;
    }
}
