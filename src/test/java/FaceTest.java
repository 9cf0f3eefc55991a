import java.io.IOException;
import java.lang.reflect.Constructor;
import java.lang.reflect.Field;
import java.lang.reflect.Method;
import java.lang.reflect.Modifier;
import java.nio.file.Files;
import java.nio.file.Path;
import java.util.HashSet;
import java.util.Set;
import java.util.TreeSet;
import java.util.regex.Pattern;

/** The face is the document's and no more, and the source keeps to the language's rules that can be seen. */
public final class FaceTest {
    private static final String SOURCE = "src/main/java/PlugBoard.java";
    private static final Set<String> FACE = Set.of(
            "int type(long)", "int read()", "int fault(boolean)", "int enter()", "int leave()",
            "boolean stand(int,int)", "int ask(int)", "int value(int)", "int undo()", "int count(int)",
            "int part(int,int)", "int need(int,int)", "int thing(int,int)", "int has(int,int)",
            "int stands(int,int)", "int why(int)", "int ended(int,boolean)", "int start(int)", "int loop(int)",
            "int needs(int,boolean)", "int would(int,int)", "int worth(int)", "int deep()", "int wave(int)",
            "int lost(int)", "int looser(int)", "boolean image(int)", "boolean again(int)");
    private static final String[] BARRED = {"\\bcatch\\b", "\\btry\\b", "\\bfinally\\b", "\\bsynchronized\\b", "\\bassert\\b",
        "->", "::", "\\bpackage\\b", "Exact\\b", "\\bSystem\\.(?!arraycopy\\b)", "\\bprotected\\b", "\\bstatic \\{"};
    private static final Check check = new Check();

    public static void main(String[] args) throws IOException {
        methods();
        fieldsAndConstructors();
        namesInside();
        source();
        check.end();
    }

    private static String told(Method method) {
        StringBuilder told = new StringBuilder();
        told.append(method.getReturnType()).append(' ').append(method.getName()).append('(');
        for (Class<?> type : method.getParameterTypes()) {
            told.append(told.charAt(told.length() - 1) == '(' ? "" : ",").append(type);
        }
        return told.append(')').toString();
    }

    private static void methods() {
        Set<String> seen = new TreeSet<>();
        for (Method method : PlugBoard.class.getDeclaredMethods()) {
            if (!Modifier.isPrivate(method.getModifiers())) {
                check.due("public " + method.getName(), Modifier.isPublic(method.getModifiers()), true);
                seen.add(told(method));
            }
        }
        check.due("the face", seen.toString(), new TreeSet<>(FACE).toString());
    }

    private static void fieldsAndConstructors() {
        for (Field field : PlugBoard.class.getDeclaredFields()) {
            boolean isNone = field.getName().equals("NONE");
            check.due("private " + field.getName(), Modifier.isPrivate(field.getModifiers()), !isNone);
            if (Modifier.isStatic(field.getModifiers())) {
                check.due("final " + field.getName(), Modifier.isFinal(field.getModifiers()), true);
            }
        }
        Constructor<?>[] made = PlugBoard.class.getDeclaredConstructors();
        check.due("constructors", made.length, 1);
        check.due("its modifiers", made[0].getModifiers(), Modifier.PUBLIC);
        check.due("class", PlugBoard.class.getModifiers(), Modifier.PUBLIC | Modifier.FINAL);
        check.due("NONE", PlugBoard.NONE, -1);
    }

    private static void namesInside() {
        Set<String> names = new HashSet<>();
        for (String told : FACE) {
            names.add(told.substring(told.indexOf(' ') + 1, told.indexOf('(')));
        }
        Class<?>[] inside = PlugBoard.class.getDeclaredClasses();
        check.due("at most twelve classes", inside.length < 12, true);
        for (Class<?> one : inside) {
            check.due("static " + one, Modifier.isStatic(one.getModifiers()), true);
            for (Method method : one.getDeclaredMethods()) {
                check.due("a name of the face in " + method, names.contains(method.getName()), false);
                check.due("seven parameters of " + method, method.getParameterCount() <= 7, true);
            }
        }
    }

    private static void source() throws IOException {
        String source = Files.readString(Path.of(SOURCE));
        for (String barred : BARRED) {
            check.due("barred " + barred, Pattern.compile(barred).matcher(source).find(), false);
        }
        for (char sign : source.toCharArray()) {
            check.due("sign", sign == '\n' || sign >= ' ' && sign < 127, true);
        }
    }
}
