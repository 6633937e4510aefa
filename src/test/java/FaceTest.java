import java.io.IOException;
import java.lang.reflect.Constructor;
import java.lang.reflect.Field;
import java.lang.reflect.Method;
import java.lang.reflect.Modifier;
import java.nio.file.Files;
import java.nio.file.Path;
import java.util.Arrays;
import java.util.TreeSet;
import java.util.regex.Matcher;
import java.util.regex.Pattern;

/** The face as the document has it, and what of LANGUAGE.md can be seen from outside. */
public final class FaceTest {
    private static final Due due = new Due();
    private static final String[] METHODS = {
        "box(int,int,int,int,boolean)", "path(int,int,int,int,int)", "text(int,int,int,int)",
        "put(int,int,int,int,boolean)", "times(int,int,int,int)", "undo(int)", "shape(int,int,int)",
        "made(int,int,int,int)", "flat(int)", "area(int)", "covered(int,int)", "pieces(int,int)",
        "rule(int,int,int,int)", "run()", "fault(int,int)", "faults(int,int)", "conducts(int,boolean)",
        "joint(int,int,int)", "gates(int,int,int)", "circuit()", "net(int,int)", "name(int,int)",
        "device(int,int)", "wish(int,int)", "unwish()", "same()", "tries()", "pair(int,boolean)",
        "lay(int,int)", "tear()", "row(int)", "copy(int,int,int)", "status(int)"};
    private static final String[] CONSTANTS = {
        "NONE", "MISSING", "BEYOND", "BELOW", "KIND", "COPY", "NO", "FULL", "SPENT"};

    public static void main(String[] args) throws Exception {
        constants();
        methods();
        nested();
        words();
        due.end();
    }

    private static void constants() throws IllegalAccessException {
        TreeSet<String> open = new TreeSet<>();
        for (Field field : RulePlate.class.getDeclaredFields()) {
            if (!Modifier.isPrivate(field.getModifiers())) {
                open.add(field.getName());
            }
            if (Modifier.isStatic(field.getModifiers())) {
                due.is(field.getName() + " is final", Modifier.isFinal(field.getModifiers()));
            }
        }
        due.is("constants " + open, open.equals(new TreeSet<>(Arrays.asList(CONSTANTS))));
        for (int i = 0; i < CONSTANTS.length; i++) {
            try {
                due.is(CONSTANTS[i], RulePlate.class.getField(CONSTANTS[i]).getInt(null), -1 - i);
            } catch (NoSuchFieldException e) {
                due.is(CONSTANTS[i] + " is there", false);
            }
        }
    }

    private static void methods() {
        TreeSet<String> open = new TreeSet<>();
        TreeSet<String> names = new TreeSet<>();
        for (String method : METHODS) {
            names.add(method.substring(0, method.indexOf('(')));
        }
        for (Method method : RulePlate.class.getDeclaredMethods()) {
            if (!Modifier.isPrivate(method.getModifiers())) {
                StringBuilder form = new StringBuilder(method.getName()).append('(');
                for (Class<?> type : method.getParameterTypes()) {
                    form.append(form.charAt(form.length() - 1) == '(' ? "" : ",").append(type.getName());
                }
                open.add(form.append(')').toString());
                due.is(method + " is public", Modifier.isPublic(method.getModifiers()));
                due.is(method + " answers an int", method.getReturnType() == int.class);
            } else {
                due.is(method + " has a name of its own", !names.contains(method.getName()));
            }
        }
        due.is("methods " + open, open.equals(new TreeSet<>(Arrays.asList(METHODS))));
        Constructor<?>[] made = RulePlate.class.getDeclaredConstructors();
        due.is("one constructor", made.length == 1 && made[0].getParameterCount() == 0
            && Modifier.isPublic(made[0].getModifiers()));
        due.is("final", Modifier.isFinal(RulePlate.class.getModifiers()));
    }

    private static void nested() {
        Class<?>[] all = RulePlate.class.getDeclaredClasses();
        due.is("some twelve classes", all.length <= 11);
        for (Class<?> inner : all) {
            due.is(inner + " is static", Modifier.isStatic(inner.getModifiers()));
            due.is(inner + " is not public", !Modifier.isPublic(inner.getModifiers()));
            due.is(inner + " has few fields", inner.getDeclaredFields().length <= 20);
            for (Method method : inner.getDeclaredMethods()) {
                due.is(method + " takes at most seven", method.getParameterCount() <= 7);
            }
        }
    }

    private static void words() throws IOException {
        String code = Files.readString(Path.of("src/main/java/RulePlate.java"));
        code = code.replaceAll("(?s)/\\*.*?\\*/", "").replaceAll("//[^\n]*", "");
        String[] wrong = {"\\bthrow\\b", "\\bthrows\\b", "\\btry\\b", "\\bcatch\\b", "\\bsynchronized\\b",
            "\\bassert\\b", "->", "::", "\\bvar\\b", "\\bpackage\\b", "\\bSystem\\.(?!arraycopy)", "Exact\\b",
            "\\bThread\\b", "\\bdouble\\b", "\\bfloat\\b", "\\bwhile\\b"};
        for (String word : wrong) {
            Matcher found = Pattern.compile(word).matcher(code);
            due.is("without " + word, !found.find());
        }
        Matcher imports = Pattern.compile("import ([^;]*);").matcher(code);
        while (imports.find()) {
            due.is("import " + imports.group(1), imports.group(1).equals("java.util.Arrays"));
        }
    }
}
