import java.lang.reflect.Constructor;
import java.lang.reflect.Field;
import java.lang.reflect.Method;
import java.lang.reflect.Modifier;
import java.nio.file.Files;
import java.nio.file.Path;
import java.util.Set;
import java.util.TreeSet;
import java.util.regex.Matcher;
import java.util.regex.Pattern;

/** The face of the document, and the rules of LANGUAGE.md that can be seen from outside; takes the source's path. */
public final class DriftKinFace {
    private static final String[] FACE = {
        "int ask(int)", "int behind(int,int)", "int book(int,int,int)", "int deck()", "int done()",
        "int ends(int,int,int)", "int fault()", "int forget()", "int heard(int,int,boolean)", "int image(int)",
        "int judge(int)", "int lie(int,int,int)", "int longest(int)", "int match(int)", "int piece(int,int,int,int)",
        "int restore(int)", "int rings(int,int)", "int same(int,int,int)", "int saw(int,int)", "int say(int)",
        "int then(int)", "int told(int)", "int wheel()", "int where(int)", "int wipe()", "long soon(int,int,int,int)",
    };
    private static final String[] CONSTANTS = {"NONE", "UNKNOWN", "OUTSIDE", "STATE", "FULL", "NO", "LOST"};
    private static final String[] FORBIDDEN = {
        "import", "package", "throw", "try", "catch", "finally", "synchronized", "assert", "->", "::", "while (true)",
        "Exact(", "System.", "Random", "double", "float", "protected",
    };

    private static int wrong = 0;

    private static void check(boolean right, String what) {
        if (right) return;
        wrong++;
        System.out.println("not as the document or LANGUAGE.md asks: " + what);
    }

    public static void main(String[] args) throws Exception {
        Class<?> kin = Class.forName("DriftKin");
        check(Modifier.isPublic(kin.getModifiers()) && Modifier.isFinal(kin.getModifiers()), "a public final class");
        constructors(kin);
        methods(kin);
        fields(kin);
        check(kin.getDeclaredClasses().length <= 11, "some twelve classes");
        for (Class<?> inside : kin.getDeclaredClasses()) {
            check(Modifier.isStatic(inside.getModifiers()), inside.getName() + " static");
            check(!Modifier.isPublic(inside.getModifiers()), inside.getName() + " not public");
            namesInside(kin, inside);
        }
        if (args.length > 0) source(Files.readString(Path.of(args[0])));
        anyArguments(kin);
        System.out.println(wrong == 0 ? "the face is as due" : wrong + " things are not as due");
        if (wrong != 0) System.exit(1);
    }

    private static void constructors(Class<?> kin) {
        Constructor<?>[] all = kin.getDeclaredConstructors();
        check(all.length == 1 && Modifier.isPublic(all[0].getModifiers()), "one public constructor");
        check(all[0].getParameterCount() == 0, "a constructor without parameters");
    }

    private static void methods(Class<?> kin) {
        Set<String> due = new TreeSet<>(Set.of(FACE));
        Set<String> names = new TreeSet<>();
        for (Method m : kin.getDeclaredMethods()) {
            if (Modifier.isPrivate(m.getModifiers())) continue;
            StringBuilder told = new StringBuilder(m.getReturnType().getName()).append(' ').append(m.getName()).append('(');
            for (int i = 0; i < m.getParameterCount(); i++) {
                told.append(i == 0 ? "" : ",").append(m.getParameterTypes()[i].getName());
            }
            names.add(m.getName());
            check(Modifier.isPublic(m.getModifiers()), m.getName() + " public");
            check(due.remove(told.append(')').toString()), "method " + told);
        }
        check(due.isEmpty(), "missing " + due);
        for (Method m : kin.getDeclaredMethods()) {
            check(!Modifier.isPrivate(m.getModifiers()) || !names.contains(m.getName()), "private " + m.getName());
        }
    }

    private static void fields(Class<?> kin) throws Exception {
        Set<String> due = new TreeSet<>(Set.of(CONSTANTS));
        int own = 0;
        for (Field f : kin.getDeclaredFields()) {
            if (!Modifier.isStatic(f.getModifiers())) own++;
            check(!Modifier.isStatic(f.getModifiers()) || Modifier.isFinal(f.getModifiers()), "static final " + f.getName());
            if (Modifier.isPrivate(f.getModifiers())) continue;
            check(due.remove(f.getName()), "field " + f.getName());
            check(f.getType() == (f.getName().equals("LOST") ? long.class : int.class), "type of " + f.getName());
        }
        check(due.isEmpty(), "missing " + due);
        check(own <= 20, "some twenty fields");
    }

    private static void namesInside(Class<?> kin, Class<?> inside) {
        Set<String> face = new TreeSet<>();
        for (Method m : kin.getDeclaredMethods()) if (Modifier.isPublic(m.getModifiers())) face.add(m.getName());
        for (Method m : inside.getDeclaredMethods()) {
            check(!face.contains(m.getName()), inside.getName() + "." + m.getName() + " bears a name of the face");
            check(m.getParameterCount() <= 7, m.getName() + " parameters");
        }
    }

    private static void source(String text) {
        String code = text.replaceAll("(?s)/\\*.*?\\*/", " ").replaceAll("//[^\n]*", " ");
        for (String word : FORBIDDEN) {
            String edge = Character.isLetter(word.charAt(0)) ? "\\b" : "";
            String end = Character.isLetter(word.charAt(word.length() - 1)) ? "\\b" : "";
            check(!Pattern.compile(edge + Pattern.quote(word) + end).matcher(code).find(), "no " + word);
        }
        String fieldOrStart = "(?m)^\\s+(private |final |static )*final \\w+(\\[\\])? \\w+ = new .*;$";
        Matcher made = Pattern.compile("(?m)^.*\\bnew \\b.*$").matcher(code);
        while (made.find()) check(made.group().matches(fieldOrStart), "made in a call: " + made.group().trim());
    }

    /** All calls with far arguments, in any state: none of them may throw. */
    private static void anyArguments(Class<?> kin) {
        int[] far = {Integer.MIN_VALUE, Integer.MIN_VALUE + 1, -10, -1, 0, 1, 9, 10, 65, 126, 280, Integer.MAX_VALUE - 1, Integer.MAX_VALUE};
        DriftKin x = new DriftKin();
        for (int round = 0; round < 3; round++) {
            for (Method m : kin.getDeclaredMethods()) {
                if (!Modifier.isPublic(m.getModifiers())) continue;
                for (int i = 0; i < 2000; i++) call(x, m, far, 7 * i + round);
            }
        }
    }

    private static void call(DriftKin x, Method m, int[] far, int draw) {
        Object[] arguments = new Object[m.getParameterCount()];
        int rest = draw;
        for (int i = 0; i < arguments.length; i++) {
            if (m.getParameterTypes()[i] == boolean.class) arguments[i] = rest % 2 == 0;
            else arguments[i] = far[rest % far.length];
            rest /= far.length;
        }
        try {
            m.invoke(x, arguments);
        } catch (ReflectiveOperationException e) {
            check(false, m.getName() + " throws " + e.getCause());
        }
    }
}
