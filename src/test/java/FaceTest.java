import java.io.IOException;
import java.lang.reflect.Constructor;
import java.lang.reflect.Field;
import java.lang.reflect.Method;
import java.lang.reflect.Modifier;
import java.nio.file.Files;
import java.nio.file.Path;
import java.util.ArrayList;
import java.util.Arrays;
import java.util.HashSet;
import java.util.List;
import java.util.Set;
import java.util.TreeSet;

/** The public face of ../shared/DOC.md, and what a reader of the text can see of LANGUAGE.md. */
public final class FaceTest {
    private static final String[] FACE = {
        "int append(int) throws IllegalArgumentException,IllegalStateException",
        "int clearText() throws ",
        "int errorPosition() throws ",
        "int axlesTold() throws ",
        "int about(int) throws IllegalArgumentException",
        "int axle(int,int) throws IndexOutOfBoundsException,IllegalArgumentException",
        "int car(int,int) throws IndexOutOfBoundsException,IllegalArgumentException",
        "int train(int,int) throws IndexOutOfBoundsException,IllegalArgumentException",
        "int setting(int) throws IllegalArgumentException",
        "int roll(int,int) throws IllegalArgumentException,IllegalStateException",
        "int record() throws IllegalStateException",
        "int strike(int) throws IndexOutOfBoundsException",
        "int weigh(int,int) throws IndexOutOfBoundsException,IllegalArgumentException",
        "int bill(int,int) throws IllegalArgumentException",
        "int set(int,int) throws IllegalArgumentException",
        "int leave() throws IllegalStateException",
        "int undo() throws IllegalStateException",
        "int without(int) throws IndexOutOfBoundsException",
        "int suspect() throws ",
        "int bestBase() throws ",
        "int sureness(int) throws IndexOutOfBoundsException",
        "int plans(int) throws IndexOutOfBoundsException",
        "int heavy(int) throws IllegalArgumentException",
        "int runScript(int,long) throws IllegalArgumentException",
        "int simulate(long,int) throws IllegalArgumentException",
        "int save(int) throws IndexOutOfBoundsException",
        "int restore(int) throws IndexOutOfBoundsException,IllegalStateException",
    };
    private static final String[] RULED_OUT = {"->", "::", "import ", "try ", "catch", "finally",
        "synchronized", "assert", "static {", "@", "String.format", "System.", "Thread", "Random",
        "hashCode", "equals(", "toString", "volatile", "native ", "Exact("};

    private static int wrong = 0;

    public static void main(String[] args) throws IOException {
        checkMembers();
        checkClassesInside();
        checkText(Files.readAllLines(Path.of(args[0])));
        System.out.println(wrong == 0 ? "the face is as due" : wrong + " faults of the face");
        if (wrong != 0) {
            System.exit(1);
        }
    }

    private static void report(String what) {
        wrong++;
        System.out.println(what);
    }

    private static void checkMembers() {
        Class<?> c = AxleScale.class;
        if (c.getModifiers() != (Modifier.PUBLIC | Modifier.FINAL)) {
            report("the class is not public final");
        }
        Set<String> seen = new TreeSet<>();
        Set<String> publicNames = new HashSet<>();
        for (Method m : c.getDeclaredMethods()) {
            if (m.getModifiers() == Modifier.PUBLIC) {
                seen.add(signature(m));
                publicNames.add(m.getName());
            }
        }
        if (!seen.equals(new TreeSet<>(Arrays.asList(FACE)))) {
            report("the public methods are " + seen);
        }
        for (Method m : c.getDeclaredMethods()) {
            boolean isPrivate = Modifier.isPrivate(m.getModifiers());
            if (!m.isSynthetic() && m.getModifiers() != Modifier.PUBLIC && !isPrivate) {
                report("neither public nor private: " + m);
            }
            if (isPrivate && publicNames.contains(m.getName())) {
                report("a private method bears a public one's name: " + m);
            }
        }
        for (Field f : c.getDeclaredFields()) {
            if (!f.getName().equals("NONE") && !Modifier.isPrivate(f.getModifiers())) {
                report("a field that is not private: " + f);
            }
        }
        Constructor<?>[] made = c.getDeclaredConstructors();
        if (made.length != 1 || made[0].getModifiers() != Modifier.PUBLIC
                || made[0].getParameterCount() != 0) {
            report("the constructors are " + Arrays.toString(made));
        }
    }

    private static String signature(Method m) {
        List<String> parameters = new ArrayList<>();
        for (Class<?> p : m.getParameterTypes()) {
            parameters.add(p.getSimpleName());
        }
        List<String> thrown = new ArrayList<>();
        for (Class<?> e : m.getExceptionTypes()) {
            thrown.add(e.getSimpleName());
        }
        return m.getReturnType().getSimpleName() + " " + m.getName() + "("
                + String.join(",", parameters) + ") throws " + String.join(",", thrown);
    }

    private static void checkClassesInside() {
        for (Class<?> inside : AxleScale.class.getDeclaredClasses()) {
            if (!Modifier.isStatic(inside.getModifiers())
                    || Modifier.isPublic(inside.getModifiers())
                    || Modifier.isProtected(inside.getModifiers())) {
                report("a class inside is not private or package-visible and static: " + inside);
            }
            checkStaticFields(inside);
        }
        checkStaticFields(AxleScale.class);
    }

    private static void checkStaticFields(Class<?> c) {
        int own = 0;
        for (Field f : c.getDeclaredFields()) {
            if (!Modifier.isStatic(f.getModifiers())) {
                own++;
            } else if (!Modifier.isFinal(f.getModifiers())) {
                report("a static field that is not final: " + f);
            }
        }
        if (own > 20) {
            report(own + " fields in " + c);
        }
    }

    private static void checkText(List<String> lines) {
        int first = 0;
        for (int k = 0; k < lines.size(); k++) {
            String line = lines.get(k);
            String code = line.strip();
            boolean comment = code.startsWith("//") || code.startsWith("*") || code.startsWith("/*");
            for (String word : RULED_OUT) {
                if (!comment && line.contains(word)) {
                    report("line " + (k + 1) + " holds " + word);
                }
            }
            if (!line.chars().allMatch(sign -> sign >= 1 && sign <= 127)) {
                report("line " + (k + 1) + " holds a sign that is not 1 to 127");
            }
            if (line.matches(" {4,8}\\S.*\\) .*\\{") && !code.startsWith("for") && !code.startsWith("if")) {
                first = k;
            }
            if (line.matches(" {4,8}}") && first > 0 && k - first > 60) {
                report("the method of line " + (first + 1) + " is long");
            }
        }
    }
}
