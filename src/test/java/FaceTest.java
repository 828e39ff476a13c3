import java.lang.reflect.Constructor;
import java.lang.reflect.Field;
import java.lang.reflect.Member;
import java.lang.reflect.Method;
import java.lang.reflect.Modifier;
import java.util.ArrayList;
import java.util.Arrays;
import java.util.List;
import java.util.TreeSet;

/** The public face: all that the document lists and nothing else that can be seen from outside the class. */
public final class FaceTest {
    private static final String[] CONSTANTS = {
        "LIT=0", "DUP=1", "LOAD=2", "STORE=3", "XCH=4", "ADD=5", "SUB=6", "MUL=7", "ADDP=8", "SUBP=9", "JZ=10",
        "JNEG=11", "JMP=12", "HALT=13", "RUNNING=0", "HALTED=1", "FAULT=2", "BAD=-1", "FULL=-2"};
    private static final String[] METHODS = {
        "int emit[int, int]", "int patch[int, int, int]", "boolean poke[int, int]", "void start[]", "int run[int]",
        "int depth[]", "int st[int]", "int memory[int]", "int place[]", "int executed[]"};

    private static int wrong = 0;

    private static void same(String what, List<String> got, String... want) {
        TreeSet<String> gotSet = new TreeSet<>(got);
        TreeSet<String> wantSet = new TreeSet<>(Arrays.asList(want));
        if (!gotSet.equals(wantSet)) {
            wrong++;
            System.out.println(what + ": found " + gotSet + ", due is " + wantSet);
        }
    }

    private static boolean hidden(Member member) {
        return Modifier.isPrivate(member.getModifiers());
    }

    private static List<String> constants() throws IllegalAccessException {
        List<String> found = new ArrayList<>();
        for (Field field : FpuStackTrans.class.getDeclaredFields()) {
            if (hidden(field)) {
                continue;
            }
            boolean asDue = field.getModifiers() == (Modifier.PUBLIC | Modifier.STATIC | Modifier.FINAL)
                && field.getType() == int.class;
            found.add(asDue ? field.getName() + "=" + field.getInt(null) : field.toString());
        }
        return found;
    }

    private static List<String> methods() {
        List<String> found = new ArrayList<>();
        for (Method method : FpuStackTrans.class.getDeclaredMethods()) {
            if (hidden(method)) {
                continue;
            }
            boolean asDue = method.getModifiers() == Modifier.PUBLIC;
            String parameters = Arrays.toString(method.getParameterTypes());
            found.add(asDue ? method.getReturnType() + " " + method.getName() + parameters : method.toString());
        }
        return found;
    }

    private static List<String> hiddenMethodsWithPublicNames() {
        List<String> found = new ArrayList<>();
        for (Method method : FpuStackTrans.class.getDeclaredMethods()) {
            for (String due : METHODS) {
                if (hidden(method) && due.contains(" " + method.getName() + "[")) {
                    found.add(method.getName());
                }
            }
        }
        return found;
    }

    private static List<String> constructors() {
        List<String> found = new ArrayList<>();
        for (Constructor<?> constructor : FpuStackTrans.class.getDeclaredConstructors()) {
            found.add(constructor.toString());
        }
        return found;
    }

    public static void main(String[] args) throws IllegalAccessException {
        same("class", List.of(Modifier.toString(FpuStackTrans.class.getModifiers())), "public final");
        same("constants", constants(), CONSTANTS);
        same("methods", methods(), METHODS);
        same("private methods with a public name", hiddenMethodsWithPublicNames());
        same("constructors", constructors(), "public FpuStackTrans()");
        System.out.println(wrong == 0 ? "the face is as due" : wrong + " parts of the face are not as due");
        if (wrong != 0) {
            System.exit(1);
        }
    }
}
