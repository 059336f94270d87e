import java.lang.reflect.Constructor;
import java.lang.reflect.Field;
import java.lang.reflect.Method;
import java.lang.reflect.Modifier;
import java.util.Set;
import java.util.TreeSet;

/** The face of the class: what the document lists and nothing else, by LANGUAGE.md's rule 1. */
public final class FaceTest {
    private static final String[] FACE = {
        "int feed(int,int,int,int,int)", "int load()", "int play()", "int errorPosition()",
        "int size(int) IllegalArgumentException", "boolean isRule(int) IndexOutOfBoundsException",
        "int rule(int,int) IndexOutOfBoundsException IllegalArgumentException",
        "int bodyAt(int,int) IndexOutOfBoundsException", "int startAt(int) IndexOutOfBoundsException",
        "int letterAt(int) IndexOutOfBoundsException", "int symbolOf(int) IndexOutOfBoundsException",
        "int letters(int) IllegalArgumentException", "int account(int) IllegalArgumentException",
        "int gap()", "int rulesGap()", "double ratio()", "int meanBits()", "long digest()",
        "int count(int,int) IllegalArgumentException", "int best(int) IllegalArgumentException",
        "int why(int,int) IllegalArgumentException", "int gain(int,int) IllegalArgumentException",
        "int stepsLeft()", "int sizeIn(int) IllegalArgumentException", "int bestTie()", "int bestLeast()",
        "int inlinable()", "int step(int) IllegalArgumentException", "int inline()",
        "int make(int,int) IllegalArgumentException", "int expand(int) IndexOutOfBoundsException",
        "int append(int) IllegalArgumentException", "int cut(int) IllegalArgumentException",
        "int set(int,int) IllegalArgumentException", "int report()", "int reportByte(int)",
        "int undo() NoSuchElementException", "int save(int) IllegalArgumentException",
        "int restore(int) IllegalArgumentException NoSuchElementException"};

    private FaceTest() {
    }

    private static String told(Method method) {
        StringBuilder text = new StringBuilder(method.getReturnType().getSimpleName() + " " + method.getName() + "(");
        for (Class<?> type : method.getParameterTypes()) {
            text.append(text.charAt(text.length() - 1) == '(' ? "" : ",").append(type.getSimpleName());
        }
        text.append(")");
        for (Class<?> type : method.getExceptionTypes()) {
            text.append(" ").append(type.getSimpleName());
        }
        return text.toString();
    }

    private static void members() {
        Set<String> open = new TreeSet<>();
        Set<String> names = new TreeSet<>();
        Set<String> hidden = new TreeSet<>();
        for (Method method : PairRules.class.getDeclaredMethods()) {
            boolean isPrivate = Modifier.isPrivate(method.getModifiers());
            if (!isPrivate) {
                open.add(told(method));
                Checks.due("public: " + method, Modifier.isPublic(method.getModifiers()) ? 1 : 0, 1);
                Checks.due("of an object: " + method, Modifier.isStatic(method.getModifiers()) ? 1 : 0, 0);
            }
            (isPrivate ? hidden : names).add(method.getName());
        }
        Checks.due("the methods of the face", open.toString(), new TreeSet<>(Set.of(FACE)).toString());
        hidden.retainAll(names);
        Checks.due("private methods that bear a name of the face", hidden.toString(), "[]");
        for (Field field : PairRules.class.getDeclaredFields()) {
            boolean isFace = field.getName().equals("NONE");
            Checks.due("private: " + field, Modifier.isPrivate(field.getModifiers()) ? 1 : 0, isFace ? 0 : 1);
        }
        for (Class<?> inside : PairRules.class.getDeclaredClasses()) {
            int modifiers = inside.getModifiers();
            Checks.due("a class inside: " + inside, Modifier.isStatic(modifiers) && !Modifier.isPublic(modifiers) ? 1 : 0, 1);
            for (Method method : inside.getDeclaredMethods()) {
                boolean clash = names.contains(method.getName());
                Checks.due("a name of the face inside: " + method, clash ? 1 : 0, 0);
            }
        }
        Checks.due("classes inside", PairRules.class.getDeclaredClasses().length <= 11 ? 1 : 0, 1);
    }

    public static void main(String[] args) throws NoSuchFieldException {
        int modifiers = PairRules.class.getModifiers();
        Checks.due("public and final", Modifier.isPublic(modifiers) && Modifier.isFinal(modifiers) ? 1 : 0, 1);
        Checks.due("NONE", PairRules.NONE, -1);
        Field none = PairRules.class.getDeclaredField("NONE");
        Checks.due("NONE is a constant", none.getType() == int.class && none.getModifiers() == 25 ? 1 : 0, 1);
        Constructor<?>[] constructors = PairRules.class.getDeclaredConstructors();
        Checks.due("constructors", constructors.length, 1);
        Checks.due("the constructor", constructors[0].getParameterCount() * 100 + constructors[0].getModifiers(), 1);
        members();
        Checks.end();
    }
}
