import java.io.IOException;
import java.lang.reflect.Constructor;
import java.lang.reflect.Field;
import java.lang.reflect.Method;
import java.lang.reflect.Modifier;
import java.nio.file.Files;
import java.nio.file.Path;
import java.util.Set;
import java.util.TreeSet;
import java.util.regex.Matcher;
import java.util.regex.Pattern;

/** The class has the document's face and no more, and its source keeps to what LANGUAGE.md leaves. */
public final class FaceTest {
    private static final String[] FACE = {"int days(int)", "int feed(int,int,int,int,int)", "boolean end(int)",
        "int fault()", "int report()", "boolean correct(int)", "boolean deny(int,int)", "boolean hand(int,int,int)",
        "boolean opens(int)", "boolean price(int)", "int field(int,int,int)", "int upper(int,int)",
        "int letter(int,int,int,int)", "int pair(int,int,int)", "int group(int,int)", "int cost(int)",
        "int groups(int)", "int happening(int,int,int)", "int at(int,int)", "int shape(int,int)", "int form(int,int)",
        "int forms(int)", "int count(int)"};
    private static final String FORBIDDEN = "\\b(import|package|throw|throws|try|catch|synchronized|assert|protected"
        + "|hashCode|Exact|Object|Random|Thread|System\\.(?!arraycopy))\\b|->|::|\\w+Exact\\b|\\bnew \\w+(\\[\\])?\\s*\\{";
    private static int wrong = 0;

    private static void check(boolean right, String what) {
        if (!right) {
            wrong++;
            System.out.println(what);
        }
    }

    private static String signature(Method m) {
        StringBuilder text = new StringBuilder(m.getReturnType().getName() + " " + m.getName() + "(");
        for (int i = 0; i < m.getParameterCount(); i++) {
            text.append(i == 0 ? "" : ",").append(m.getParameterTypes()[i].getName());
        }
        return text.append(")").toString();
    }

    private static void checkFace() {
        Class<TidingsDesk> desk = TidingsDesk.class;
        Set<String> names = new TreeSet<>();
        Set<String> open = new TreeSet<>();
        check(Modifier.isPublic(desk.getModifiers()) && Modifier.isFinal(desk.getModifiers()), "not public and final");
        for (Method m : desk.getDeclaredMethods()) {
            if (!Modifier.isPrivate(m.getModifiers())) {
                open.add(signature(m));
                check(Modifier.isPublic(m.getModifiers()) && !Modifier.isStatic(m.getModifiers()), "modifiers of " + m);
            }
        }
        check(open.equals(new TreeSet<>(Set.of(FACE))), "the open methods are " + open);
        for (String face : FACE) {
            names.add(face.replaceAll(".* (\\w+)\\(.*", "$1"));
        }
        for (Constructor<?> c : desk.getDeclaredConstructors()) {
            check(Modifier.isPublic(c.getModifiers()) && c.getParameterCount() == 0, "constructor " + c);
        }
        for (Field f : desk.getDeclaredFields()) {
            check(Modifier.isPrivate(f.getModifiers()) || f.getName().equals("NONE"), "open field " + f);
            check(!Modifier.isStatic(f.getModifiers()) || Modifier.isFinal(f.getModifiers()), "static field " + f);
        }
        check(desk.getDeclaredClasses().length < 12, "classes: " + desk.getDeclaredClasses().length);
        for (Class<?> inside : desk.getDeclaredClasses()) {
            check(Modifier.isStatic(inside.getModifiers()), inside + " is not static");
            for (Method m : inside.getDeclaredMethods()) {
                check(!names.contains(m.getName()), m + " bears the name of a public method");
                check(m.getParameterCount() <= 7, m + " takes too many");
            }
            check(inside.getDeclaredFields().length <= 20, inside + " has too many fields");
        }
    }

    private static void checkSource() throws IOException {
        String source = Files.readString(Path.of("src/main/java/TidingsDesk.java"));
        source = source.replaceAll("(?s)/\\*.*?\\*/", "").replaceAll("//[^\n]*", "");
        Matcher m = Pattern.compile(FORBIDDEN).matcher(source);
        while (m.find()) {
            check(false, "the source has '" + m.group() + "'");
        }
        check(!source.contains("\" +") && !source.contains("+ \""), "texts are joined by +");
    }

    public static void main(String[] args) throws IOException {
        checkFace();
        checkSource();
        System.out.println(wrong == 0 ? "the face is as due" : wrong + " things are not as due");
        if (wrong != 0) {
            System.exit(1);
        }
    }
}
