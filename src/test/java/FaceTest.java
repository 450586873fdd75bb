import java.io.IOException;
import java.lang.reflect.Constructor;
import java.lang.reflect.Field;
import java.lang.reflect.Member;
import java.lang.reflect.Method;
import java.lang.reflect.Modifier;
import java.nio.charset.StandardCharsets;
import java.nio.file.Files;
import java.nio.file.Path;
import java.util.ArrayList;
import java.util.List;
import java.util.TreeSet;
import java.util.regex.Pattern;

/** The document's face and no more, and the rules of LANGUAGE.md that a look at the text can tell. */
public final class FaceTest {
    private static final Due DUE = new Due("FaceTest");
    private static final String[] FACE = {
        "int now(int)", "int block(int,int,int,int,int)", "int service(int,int,int)", "int foreign(int,int,int,int)",
        "int finish(int,int)", "int split(int,int,int,int,int,int)", "int lengthen(int,int,int,int)",
        "int entry(int,int)", "int pairs(int)", "int pair(int,int,int)", "int line(int,int)", "int drop(int)",
        "int port(int,int)", "long numberOf(int,int)", "int lineAt(int,int,int)", "int call(int)",
        "int figure(int,int)", "int waits(int)", "int told(int,int)", "int leads(long,int)",
        "int demand(int,int,int)", "long room(int,int)", "int shortage(int)",
        "int mightCome(int,int,int,int,int,int)", "int relief(int,int)", "int take(int)", "int count(int)"
    };
    private static final String[] BARRED = {
        "\\bthrow\\b", "\\btry\\b", "\\bcatch\\b", "\\bsynchronized\\b", "\\bassert\\b", "->", "::", "\\bimport\\b",
        "\\bpackage\\b", "Exact\\b", "\\bstatic \\{", "\\bSystem\\.(?!arraycopy)", "\\bObject\\b", "[^\\x00-\\x7f]"
    };

    public static void main(String[] args) throws IOException {
        face();
        namesOfOtherMethods();
        text();
        DUE.end();
    }

    private static void face() {
        TreeSet<String> due = new TreeSet<>(List.of(FACE));
        for (Method method : DialDesk.class.getDeclaredMethods()) {
            if (isSeen(method)) {
                boolean known = due.remove(told(method)) && Modifier.isPublic(method.getModifiers());
                DUE.is("seen method " + told(method), known ? 1 : 0, 1);
            }
        }
        DUE.is("methods that are missing " + due, due.size(), 0);
        List<String> fields = new ArrayList<>();
        for (Field field : DialDesk.class.getDeclaredFields()) {
            if (isSeen(field)) {
                fields.add(field.getName());
            }
        }
        DUE.is("seen fields " + fields, fields.equals(List.of("NONE", "RANGE", "FULL")) ? 1 : 0, 1);
        Constructor<?>[] made = DialDesk.class.getDeclaredConstructors();
        DUE.is("constructors", made.length, 1);
        DUE.is("without arguments", made[0].getParameterCount(), 0);
        DUE.is("final", Modifier.isFinal(DialDesk.class.getModifiers()) ? 1 : 0, 1);
        DUE.is("NONE", DialDesk.NONE, -1);
        DUE.is("RANGE", DialDesk.RANGE, -2);
        DUE.is("FULL", DialDesk.FULL, -3);
    }

    private static boolean isSeen(Member member) {
        return !member.isSynthetic() && !Modifier.isPrivate(member.getModifiers());
    }

    private static String told(Method method) {
        StringBuilder text = new StringBuilder(method.getReturnType() + " " + method.getName() + "(");
        for (Class<?> type : method.getParameterTypes()) {
            text.append(text.charAt(text.length() - 1) == '(' ? "" : ",").append(type);
        }
        return text.append(")").toString();
    }

    private static void namesOfOtherMethods() {
        TreeSet<String> names = new TreeSet<>();
        for (Method method : DialDesk.class.getMethods()) {
            names.add(method.getName());
        }
        for (Method method : DialDesk.class.getDeclaredMethods()) {
            if (!Modifier.isPublic(method.getModifiers())) {
                DUE.is("private " + method.getName(), names.contains(method.getName()) ? 1 : 0, 0);
            }
        }
        for (Class<?> inside : DialDesk.class.getDeclaredClasses()) {
            DUE.is(inside + " is static", Modifier.isStatic(inside.getModifiers()) ? 1 : 0, 1);
            for (Method method : inside.getDeclaredMethods()) {
                DUE.is(inside + " " + method.getName(), names.contains(method.getName()) ? 1 : 0, 0);
                DUE.is("parameters of " + method.getName(), Math.max(7, method.getParameterCount()), 7);
            }
        }
        DUE.is("classes", Math.max(12, DialDesk.class.getDeclaredClasses().length + 1), 12);
    }

    private static void text() throws IOException {
        String text = Files.readString(Path.of("src/main/java/DialDesk.java"), StandardCharsets.UTF_8);
        String code = text.replaceAll("(?s)/\\*.*?\\*/", "").replaceAll("//[^\n]*", "");
        for (String barred : BARRED) {
            DUE.is("the text has " + barred, Pattern.compile(barred).matcher(code).find() ? 1 : 0, 0);
        }
    }
}
