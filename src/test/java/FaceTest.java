import java.lang.reflect.Constructor;
import java.lang.reflect.Field;
import java.lang.reflect.Member;
import java.lang.reflect.Method;
import java.lang.reflect.Modifier;
import java.util.Arrays;
import java.util.Set;
import java.util.TreeSet;

/** The public face: every member that the document names, with its exceptions, and no other one. */
public final class FaceTest {
    private static final String I = "IllegalArgumentException";
    private static final String S = "IllegalStateException";
    private static final String X = "IndexOutOfBoundsException";

    public static void main(String[] args) {
        Set<String> want = new TreeSet<>(Arrays.asList(
            "int append(int) " + I + " " + S, "int clearText()", "int errorPosition()", "int load() " + S,
            "int about(int) " + I, "int symbol(int,int,int) " + X + " " + I, "int bucket(int,int,int) " + X + " " + I,
            "int slot(int,int,int) " + X + " " + I, "int item(int) " + X, "int tape(int,int) " + I + " " + X,
            "int setCount(int,int,int) " + X + " " + I + " " + S, "int insert(int,int) " + X + " " + I + " " + S,
            "int remove(int) " + X, "int encode() " + S, "int decode() " + S, "int setDigit(int,int) " + X + " " + I,
            "int setHead(int,int) " + X + " " + I, "int setPlan(int,int) " + X, "int undo() " + S,
            "int taken(int,int) " + X + " " + I, "int failure()", "int unfit()", "int digitsWith(int) " + X,
            "long product(int,int,int) " + X + " " + I, "int bestModel(int,int) " + X + " " + I, "int difference()",
            "int effect(int,int,int) " + X + " " + I, "int runScript(int,long) " + I, "int simulate(long,int) " + I,
            "int save(int) " + X, "int restore(int) " + X + " " + S));
        Set<String> got = new TreeSet<>();
        Set<String> faceNames = new TreeSet<>();
        for (Method m : AliasStreams.class.getDeclaredMethods()) {
            if (!Modifier.isPrivate(m.getModifiers())) {
                got.add(told(m));
                faceNames.add(m.getName());
                Check.due(m + " is public and not static", m.getModifiers(), Modifier.PUBLIC);
            }
        }
        Check.same("the face", String.join("\n", got), String.join("\n", want));
        checkFields();
        checkClass();
        checkPrivateNames(AliasStreams.class, faceNames);
        for (Class<?> inside : AliasStreams.class.getDeclaredClasses()) {
            Check.due(inside + " is static", inside.getModifiers() & Modifier.STATIC, Modifier.STATIC);
            checkPrivateNames(inside, faceNames);
        }
        Check.finish();
    }

    private static String told(Method m) {
        StringBuilder s = new StringBuilder(m.getReturnType().getName()).append(' ').append(m.getName()).append('(');
        String separator = "";
        for (Class<?> type : m.getParameterTypes()) {
            s.append(separator).append(type.getName());
            separator = ",";
        }
        s.append(')');
        for (Class<?> type : m.getExceptionTypes()) {
            s.append(' ').append(type.getSimpleName());
        }
        return s.toString();
    }

    private static void checkFields() {
        Check.due("NONE", AliasStreams.NONE, -9);
        for (Field f : AliasStreams.class.getDeclaredFields()) {
            boolean isNone = f.getName().equals("NONE");
            int wanted = isNone ? Modifier.PUBLIC | Modifier.STATIC | Modifier.FINAL : Modifier.PRIVATE;
            Check.due(f + " has these modifiers", f.getModifiers() & wanted, wanted);
            checkStaticIsFinal(f);
        }
    }

    private static void checkStaticIsFinal(Member f) {
        boolean good = !Modifier.isStatic(f.getModifiers()) || Modifier.isFinal(f.getModifiers());
        Check.same(f + " is final if static", Boolean.toString(good), "true");
    }

    private static void checkClass() {
        int modifiers = AliasStreams.class.getModifiers();
        Check.due("the class's modifiers", modifiers, Modifier.PUBLIC | Modifier.FINAL);
        Constructor<?>[] constructors = AliasStreams.class.getDeclaredConstructors();
        Check.due("constructors", constructors.length, 1);
        Check.due("the constructor is public", constructors[0].getModifiers(), Modifier.PUBLIC);
        Check.due("the constructor's parameters", constructors[0].getParameterCount(), 0);
    }

    private static void checkPrivateNames(Class<?> type, Set<String> faceNames) {
        for (Method m : type.getDeclaredMethods()) {
            boolean bears = Modifier.isPrivate(m.getModifiers()) && faceNames.contains(m.getName());
            Check.same(m + " bears a name of the face", Boolean.toString(bears), "false");
        }
        for (Field f : type.getDeclaredFields()) {
            checkStaticIsFinal(f);
        }
    }
}
