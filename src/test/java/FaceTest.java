import java.io.IOException;
import java.lang.reflect.Constructor;
import java.lang.reflect.Field;
import java.lang.reflect.InvocationTargetException;
import java.lang.reflect.Method;
import java.lang.reflect.Modifier;
import java.nio.file.Files;
import java.nio.file.Path;
import java.util.Arrays;
import java.util.Set;
import java.util.TreeSet;
import java.util.regex.Pattern;

/** The public face is the document's and no more; calls of any arguments answer; the source keeps its rules. */
public final class FaceTest {
    private static final Due DUE = new Due("FaceTest");
    private static final String[] FACE = {
        "int feed(int, int, int, int, int)", "int end(int)", "int text(int, int)", "int fault(int)",
        "int village(int, int)", "int tie(int, int, int)", "int act(int, int, int)",
        "int person(int, int, int, int, int)", "int holders(int, int, int, boolean)", "int run(int, int, int)",
        "int held(int, int, int, int)", "int heard(int, int, int, boolean, boolean)", "int cure(int, int, int, int)",
        "int late(int, int, int)", "int begun(int, int, int, int, int)", "int origin(int, int, int, int, boolean)",
        "int matters(int, int, int)", "int key(int, int, boolean)", "int apart(int, int, int)",
        "long cut(int, int, int)", "int soon(int, int, int, boolean)", "int reach(int, int, int)", "int loud(int)",
        "int drawn(int, int, int, int, int)", "int worlds(int, int, int, int, int, boolean)",
        "long barred(int, int, int, int)", "int join(int, int, boolean)", "int unlike(int, int, int)",
        "int whole(int, int, int)", "int wavers(int, int, int)", "int often(int, int, int, int)",
        "int cures(int, int, int, int)", "int shield(int, int, int, int)", "int worst(int, int, int)",
        "int deaf(int, int, int)", "int turn(int, int, int, boolean)", "int chain(int, int, int, int)",
        "int count(int)", "boolean image(int)", "boolean again(int)"};
    private static final String[] RULED_OUT = {"throw", "throws", "try", "catch", "finally", "synchronized", "assert",
        "instanceof", "interface", "protected", "->", "::", "Exact", "static \\{", "MAX_VALUE", "MIN_VALUE", "Object",
        "hashCode", "toString", "System\\.(?!arraycopy)", "import (?!java.util.Arrays;)"};
    private static final int[] ODD = {Integer.MIN_VALUE, -1000, -3, -2, -1, 0, 0, 0, 1, 1, 2, 2, 3, 4, 5, 6, 7, 9, 15, 16, 17, 20,
        21, 31, 32, 39, 40, 41, 63, 64, 90, 91, 99, 100, 199, 200, 201, 599, 600, 601, 1 << 15, 1 << 16, Integer.MAX_VALUE};
    private static long random = 1L;

    private static int below(int n) {
        random = random * 6364136223846793005L + 1442695040888963407L;
        return (int) ((random >>> 33) % n);
    }

    private static void face() {
        Set<String> due = new TreeSet<>(Arrays.asList(FACE));
        Set<String> got = new TreeSet<>();
        for (Method method : SaidBack.class.getDeclaredMethods()) {
            StringBuilder b = new StringBuilder(method.getReturnType().getName() + " " + method.getName() + "(");
            for (Class<?> type : method.getParameterTypes()) {
                b.append(b.charAt(b.length() - 1) == '(' ? "" : ", ").append(type.getName());
            }
            if (Modifier.isPublic(method.getModifiers())) {
                got.add(b.append(')').toString());
                DUE.is("instance method " + b, Modifier.isStatic(method.getModifiers()), false);
            } else {
                DUE.is("private method " + b, Modifier.isPrivate(method.getModifiers()) || method.isSynthetic(), true);
            }
        }
        DUE.is("the face is " + got, got.equals(due), true);
        DUE.is("public final", SaidBack.class.getModifiers(), Modifier.PUBLIC | Modifier.FINAL);
        DUE.is("constructors", SaidBack.class.getDeclaredConstructors().length, 1);
        for (Constructor<?> constructor : SaidBack.class.getDeclaredConstructors()) {
            DUE.is("constructor", constructor.getModifiers() == Modifier.PUBLIC && constructor.getParameterCount() == 0, true);
        }
        for (Field field : SaidBack.class.getDeclaredFields()) {
            boolean constant = field.getName().equals("NONE");
            int modifiers = field.getModifiers();
            DUE.is("field " + field, constant ? Modifier.isPublic(modifiers) : Modifier.isPrivate(modifiers), true);
            DUE.is("no other static state " + field, Modifier.isFinal(modifiers), true);
        }
        for (Class<?> inside : SaidBack.class.getDeclaredClasses()) {
            DUE.is("static " + inside, Modifier.isStatic(inside.getModifiers()), true);
            DUE.is("not public " + inside, Modifier.isPublic(inside.getModifiers()), false);
        }
        DUE.is("some twelve classes", SaidBack.class.getDeclaredClasses().length <= 11, true);
    }

    private static void source() throws IOException {
        String source = Files.readString(Path.of("src/main/java/SaidBack.java"))
            .replaceAll("(?s)/\\*.*?\\*/", "").replaceAll("//[^\\n]*", "");
        for (String word : RULED_OUT) {
            String pattern = Character.isLetter(word.charAt(0)) ? "\\b" + word : word;
            DUE.is("ruled out: " + word, Pattern.compile(pattern).matcher(source).find(), false);
        }
    }

    private static SaidBack told(int which) {
        if (which == 0) {
            return new SaidBack();
        }
        SaidBack x = Tapes.with("people 16;last 0 1 2 3;most 4 5 6;till 7 8;both 9 10;once 11;doubt 15 99;tie 0 1 1 9;"
            + "tie 1 2 2 3;tie 2 0 3 4;tie 4 5 1 1;tie 5 4 1 1;tie 0 15 1 1;tie 9 10 1 1;tie 10 7 1 9;slow 3;tires 30 0;",
            "word 0 0;deny 3 1;wall 39 0 99;wall 0 50 99;word 99 15;", "deny 0 3;word 2 9;deny 4 9;", "");
        Tapes.tell(x, 0, which == 1 ? "people 1;" : "people 3;till 0 1 2;tie 0 1 1 9;tie 1 2 1 9;tie 2 0 1 9;");
        return x;
    }

    private static void wild() throws IllegalAccessException {
        Method[] methods = Arrays.stream(SaidBack.class.getDeclaredMethods())
            .filter(m -> Modifier.isPublic(m.getModifiers())).toArray(Method[]::new);
        Arrays.sort(methods, (a, b) -> a.getName().compareTo(b.getName()));
        for (int round = 0; round < 60; round++) {
            SaidBack x = told(round % 3);
            for (int call = 0; call < 480; call++) {
                Method method = methods[below(methods.length)];
                Object[] args = new Object[method.getParameterCount()];
                for (int i = 0; i < args.length; i++) {
                    boolean flag = method.getParameterTypes()[i] == boolean.class;
                    int odd = ODD[below(below(2) == 0 ? 14 : ODD.length)];
                    args[i] = flag ? (Object) (below(2) == 0) : (Object) odd;
                }
                try {
                    method.invoke(x, args);
                } catch (InvocationTargetException e) {
                    DUE.is(method.getName() + Arrays.toString(args) + " threw " + e.getCause(), 1, 0);
                }
            }
        }
    }

    public static void main(String[] args) throws Exception {
        face();
        source();
        wild();
        DUE.end();
    }
}
