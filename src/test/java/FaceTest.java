import java.io.IOException;
import java.lang.reflect.Constructor;
import java.lang.reflect.Field;
import java.lang.reflect.Method;
import java.lang.reflect.Modifier;
import java.nio.file.Files;
import java.nio.file.Path;
import java.util.ArrayList;
import java.util.Arrays;
import java.util.List;
import java.util.TreeSet;
import java.util.regex.Matcher;
import java.util.regex.Pattern;

/** The document's public face, what LANGUAGE.md says of it, and that no call throws, whatever it is given. */
public final class FaceTest {
    private static final String[] FACE = {
        "int write(int, long)", "int wipe()", "int fault()", "int layFloor()", "int stone(int, int)",
        "int step(int, int)", "int go(int)", "int takeOut(int)", "int lay(int, int, int)", "int undo()",
        "int reach(int)", "long walk(int, int)", "int round(int)", "int needs(int, int)", "int lost(int)",
        "int begin(int)", "int hall(int)", "int rope()", "int idle()", "int circle()", "int deep()",
        "int proofs(int, int)", "int worn(int, int)", "int tell(int)", "int noRow()", "int judge()",
        "int year(int, int, int)", "int keep()", "int back()", "int count(int)"};
    private static final int[] NUMBERS = {Integer.MIN_VALUE, -5, -1, 0, 1, 2, 3, 4, 9, 10, 11, 31, 32,
        1023, 1024, 9999, Integer.MAX_VALUE};
    private static final int CALLS_OF_AN_OBJECT = 512;

    private static FloorOfProofs x;
    private static int used = CALLS_OF_AN_OBJECT;
    private static int made = 0;

    public static void main(String[] args) throws IOException {
        constants();
        members();
        privateNames();
        classesInside();
        words();
        nothingThrows();
        Due.end("FaceTest");
    }

    private static void constants() {
        Due.due("BAD", FloorOfProofs.BAD, -1);
        Due.due("NO", FloorOfProofs.NO, -2);
        Due.due("FULL", FloorOfProofs.FULL, -3);
        Due.due("NONE", FloorOfProofs.NONE, -4);
    }

    private static String told(Method method) {
        StringBuilder text = new StringBuilder();
        text.append(method.getReturnType()).append(' ').append(method.getName()).append('(');
        for (int i = 0; i < method.getParameterCount(); i++) {
            text.append(i == 0 ? "" : ", ").append(method.getParameterTypes()[i]);
        }
        return text.append(')').toString();
    }

    private static void members() {
        Class<?> of = FloorOfProofs.class;
        Due.due("public and final", of.getModifiers(), Modifier.PUBLIC | Modifier.FINAL);
        TreeSet<String> methods = new TreeSet<>();
        for (Method method : of.getDeclaredMethods()) {
            if (!Modifier.isPrivate(method.getModifiers())) {
                methods.add(told(method));
                Due.due("public alone: " + method, method.getModifiers(), Modifier.PUBLIC);
                Due.due("throws nothing told: " + method, method.getExceptionTypes().length, 0);
            }
        }
        Due.due("the face's methods: " + methods, methods.equals(new TreeSet<>(Arrays.asList(FACE))) ? 1 : 0, 1);
        TreeSet<String> fields = new TreeSet<>();
        for (Field field : of.getDeclaredFields()) {
            if (!Modifier.isPrivate(field.getModifiers())) {
                fields.add(field.getName());
            }
            if (Modifier.isStatic(field.getModifiers())) {
                Due.due("static and final: " + field, Modifier.isFinal(field.getModifiers()) ? 1 : 0, 1);
            }
        }
        Due.due("the face's constants: " + fields,
                fields.equals(new TreeSet<>(List.of("BAD", "NO", "FULL", "NONE"))) ? 1 : 0, 1);
        Due.due("constructors", of.getDeclaredConstructors().length, 1);
        for (Constructor<?> constructor : of.getDeclaredConstructors()) {
            Due.due("the constructor", constructor.getModifiers(), Modifier.PUBLIC);
            Due.due("the constructor's parameters", constructor.getParameterCount(), 0);
        }
        Due.due("interfaces", of.getInterfaces().length, 0);
    }

    private static void privateNames() {
        TreeSet<String> face = new TreeSet<>();
        for (String method : FACE) {
            face.add(method.substring(method.indexOf(' ') + 1, method.indexOf('(')));
        }
        List<Class<?>> classes = new ArrayList<>(List.of(FloorOfProofs.class.getDeclaredClasses()));
        classes.add(FloorOfProofs.class);
        for (Class<?> of : classes) {
            for (Method method : of.getDeclaredMethods()) {
                boolean ofFace = of == FloorOfProofs.class && Modifier.isPublic(method.getModifiers());
                Due.due("no second one of the name: " + method,
                        !ofFace && face.contains(method.getName()) ? 1 : 0, 0);
                Due.due("seven parameters at most: " + method, method.getParameterCount() > 7 ? 1 : 0, 0);
            }
        }
    }

    private static void classesInside() {
        Class<?>[] inside = FloorOfProofs.class.getDeclaredClasses();
        Due.due("twelve classes at most", inside.length + 1 > 12 ? 1 : 0, 0);
        for (Class<?> of : inside) {
            int modifiers = of.getModifiers();
            Due.due("static: " + of, Modifier.isStatic(modifiers) ? 1 : 0, 1);
            Due.due("neither public nor protected: " + of,
                    modifiers & (Modifier.PUBLIC | Modifier.PROTECTED), 0);
            for (Field field : of.getDeclaredFields()) {
                boolean fixed = !Modifier.isStatic(field.getModifiers()) || Modifier.isFinal(field.getModifiers());
                Due.due("no static state: " + field, fixed ? 1 : 0, 1);
            }
        }
    }

    /** The program throws and catches nothing, takes in no library, and makes its rows but once. */
    private static void words() throws IOException {
        String source = Files.readString(Path.of("src/main/java/FloorOfProofs.java"));
        String code = source.replaceAll("(?s)/\\*.*?\\*/", "").replaceAll("//[^\n]*", "")
                .replaceAll("\"[^\"\n]*\"", "\"\"");
        Matcher word = Pattern.compile("\\b(import|package|throw|throws|try|catch|finally|assert|synchronized"
                + "|instanceof|double|float|System|Thread|Random|java|null)\\b|->|::|@").matcher(code);
        while (word.find()) {
            Due.due("no " + word.group() + " at sign " + word.start(), 1, 0);
        }
        for (String line : code.split("\n")) {
            if (line.matches(".*\\bnew\\b.*")) {
                Due.due("made with the object: " + line.trim(), line.matches(" +private final .* = new .*;") ? 1 : 0, 1);
            }
            Due.due("a short line: " + line.trim(), line.length() > 120 ? 1 : 0, 0);
        }
    }

    /** Each next call to an object that has not yet had all of its calls. */
    private static FloorOfProofs next() {
        if (used >= CALLS_OF_AN_OBJECT - 40) {
            used = 40;
            x = new FloorOfProofs();
            String[] texts = {"", "n1;", "n10;a0;a9;t9,9,0;t0,1,2;t2,2,3;t3,4,5;x0,9;x3,4;w3,99;",
                "n2;t0,0,1;", "n10;a0;t0,0,1;t1,1,2;t2,2,3;t3,3,4;t4,4,5;t5,5,6;t6,6,7;t7,7,8;t8,8,9;t9,9,1;"};
            String text = texts[made++ % texts.length];
            for (int i = 0; i < text.length(); i += 8) {
                long v = 0;
                int n = Math.min(8, text.length() - i);
                for (int k = 0; k < n; k++) {
                    v = v << 8 | text.charAt(i + k);
                }
                x.write(n, v);
            }
            x.layFloor();
        }
        used++;
        return x;
    }

    private static void nothingThrows() {
        for (int turn = 0; turn < 3; turn++) {
            for (int one : NUMBERS) {
                next().fault();
                next().layFloor();
                for (int two : NUMBERS) {
                    callsOfTwo(one, two);
                    for (int three : NUMBERS) {
                        next().lay(one, two, three);
                        next().year(one, two, three);
                    }
                }
                callsOfOne(one);
            }
        }
        Due.due("objects made", made > 10 ? 1 : 0, 1);
    }

    private static void callsOfTwo(int one, int two) {
        next().write(one, two);
        next().write(one, Long.MIN_VALUE + two);
        next().stone(one, two);
        next().step(one, two);
        next().walk(one, two);
        next().needs(one, two);
        next().proofs(one, two);
        next().worn(one, two);
    }

    private static void callsOfOne(int one) {
        next().go(one);
        next().tell(one);
        next().keep();
        next().takeOut(one);
        next().reach(one);
        next().round(one);
        next().lost(one);
        next().begin(one);
        next().hall(one);
        next().rope();
        next().idle();
        next().circle();
        next().deep();
        next().judge();
        next().noRow();
        next().count(one);
        next().undo();
        next().wipe();
        next().back();
    }
}
