import java.io.IOException;
import java.lang.reflect.Field;
import java.lang.reflect.Method;
import java.lang.reflect.Modifier;
import java.nio.file.Files;
import java.nio.file.Path;
import java.util.ArrayList;
import java.util.Arrays;
import java.util.List;
import java.util.Set;
import java.util.TreeSet;
import java.util.regex.Pattern;
import java.util.stream.Collectors;

/** The public face, and those rules of LANGUAGE.md that can be looked up in the class or in its text. */
public final class RulesTest {
    private static final Due due = new Due("RulesTest");

    private static final String[] FACE = {
        "int town(int,int,int,int)", "int ofFootman(int,int)", "int street(int,int)", "int pave(int,int,int)", "int far(int,int)",
        "int days(int)", "int sit(int)", "int rise(int)", "int give(int,int,int,int)", "int season(int,int,int,int,int)",
        "int way(int,int,int)", "int round(int,int)", "int kept(int)", "int middle(int)", "int tree(int)", "int errands(int)",
        "int reading(int,int,int)", "int back(int)", "int calves(int)", "int kinds(int)", "long odds(int,int,int)",
        "int sheet(int,int,int)", "int lose(int)", "int put(int,int,int)", "long cell(int,int,int)",
        "int copy(int,int,int,int,int)", "int tell(int)", "int ring(int)", "int as(int,int)", "int trace()", "int fault()",
        "int many(int)"};

    private static final String[] BANNED = {"throw", "throws", "try", "catch", "synchronized", "assert", "import", "package",
        "volatile", "transient", "native", "strictfp", "protected", "var", "record"};

    public static void main(String[] args) throws IOException {
        constants();
        face();
        members(PromiseWalk.class);
        for (Class<?> inside : PromiseWalk.class.getDeclaredClasses()) {
            classInside(inside);
            members(inside);
        }
        due.holds("at most twelve classes", PromiseWalk.class.getDeclaredClasses().length <= 11);
        text(Files.readString(Path.of("src/main/java/PromiseWalk.java")));
        due.finish();
    }

    private static void constants() {
        due.is("UNKNOWN", PromiseWalk.UNKNOWN, -1);
        due.is("OUTSIDE", PromiseWalk.OUTSIDE, -2);
        due.is("STATE", PromiseWalk.STATE, -3);
        due.is("FULL", PromiseWalk.FULL, -4);
        due.is("NONE", PromiseWalk.NONE, -9);
        due.is("LOST", PromiseWalk.LOST, Long.MIN_VALUE);
    }

    private static String told(Method method) {
        String parameters = Arrays.stream(method.getParameterTypes()).map(Class::getSimpleName).collect(Collectors.joining(","));
        return method.getReturnType().getSimpleName() + " " + method.getName() + "(" + parameters + ")";
    }

    private static void face() {
        due.holds("public and final", Modifier.isPublic(PromiseWalk.class.getModifiers()) && Modifier.isFinal(PromiseWalk.class.getModifiers()));
        due.is("one constructor", PromiseWalk.class.getDeclaredConstructors().length, 1);
        due.is("it is public", PromiseWalk.class.getConstructors().length, 1);
        Set<String> open = new TreeSet<>();
        Set<String> names = new TreeSet<>();
        for (Method method : PromiseWalk.class.getDeclaredMethods()) {
            if (!Modifier.isPrivate(method.getModifiers())) {
                open.add(told(method));
                names.add(method.getName());
            }
        }
        due.holds("the methods of the face and no others: " + open, open.equals(new TreeSet<>(Arrays.asList(FACE))));
        Set<String> fields = new TreeSet<>();
        for (Field field : PromiseWalk.class.getDeclaredFields()) {
            if (!Modifier.isPrivate(field.getModifiers())) {
                fields.add(field.getName());
            }
        }
        due.holds("the constants of the face and no others", fields.equals(Set.of("UNKNOWN", "OUTSIDE", "STATE", "FULL", "NONE", "LOST")));
        noNameTwice(names);
    }

    private static void noNameTwice(Set<String> names) {
        List<Class<?>> all = new ArrayList<>(Arrays.asList(PromiseWalk.class.getDeclaredClasses()));
        all.add(PromiseWalk.class);
        for (Class<?> one : all) {
            for (Method method : one.getDeclaredMethods()) {
                boolean ofTheFace = one == PromiseWalk.class && Modifier.isPublic(method.getModifiers());
                due.holds(one.getSimpleName() + "." + method.getName() + " has a name of its own", ofTheFace || !names.contains(method.getName()));
            }
        }
    }

    private static void classInside(Class<?> inside) {
        int modifiers = inside.getModifiers();
        due.holds(inside.getSimpleName() + " is static", Modifier.isStatic(modifiers));
        due.holds(inside.getSimpleName() + " is not open", !Modifier.isPublic(modifiers) && !Modifier.isProtected(modifiers));
    }

    private static void members(Class<?> one) {
        int fields = 0;
        for (Field field : one.getDeclaredFields()) {
            if (Modifier.isStatic(field.getModifiers())) {
                due.holds(field.getName() + " is final", Modifier.isFinal(field.getModifiers()));
            } else {
                fields++;
            }
        }
        due.holds(one.getSimpleName() + " has at most twenty fields", fields <= 20);
        for (Method method : one.getDeclaredMethods()) {
            due.holds(method.getName() + " takes at most seven", method.getParameterCount() <= 7);
        }
    }

    private static void text(String text) {
        due.holds("signs 1 to 127 alone", text.chars().allMatch(sign -> sign >= 1 && sign <= 127));
        String code = text.replaceAll("(?s)/\\*.*?\\*/", "").replaceAll("//[^\n]*", "");
        for (String word : BANNED) {
            due.holds("no " + word, !Pattern.compile("\\b" + word + "\\b").matcher(code).find());
        }
        for (String sign : new String[] {"->", "::", "@", "System.out", "System.in", "System.nano", "System.current", "\""}) {
            due.holds("no " + sign, !code.contains(sign));
        }
        methodsAreShort(text.split("\n"));
    }

    private static void methodsAreShort(String[] lines) {
        int began = -1;
        for (int i = 0; i < lines.length; i++) {
            if (lines[i].matches(" {4}( {4})?(public |private |static )*[A-Za-z\\[\\]]+ [A-Za-z]+\\(.*\\{")) {
                began = i;
            }
            if (began >= 0 && lines[i].matches(" {4}( {4})?\\}")) {
                due.holds("short: " + lines[began].trim(), i - began < 60);
                began = -1;
            }
        }
    }
}
