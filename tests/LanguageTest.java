import java.io.IOException;
import java.lang.reflect.Constructor;
import java.lang.reflect.Field;
import java.lang.reflect.Method;
import java.lang.reflect.Modifier;
import java.nio.charset.StandardCharsets;
import java.nio.file.Files;
import java.nio.file.Path;
import java.util.ArrayList;
import java.util.List;
import java.util.Set;
import java.util.TreeSet;

/** The face, and what LANGUAGE.md asks of the members of the classes; the other rules are RulesTest's. */
public final class LanguageTest {
    private static final Checks CHECKS = new Checks();
    private static final String[] FACE = {"int place(int,int)", "int arrow(int,int,int)", "int cut(int)",
        "int give(int,int)", "int set(int,int,int)", "int from(int,int)", "int forced(int,int)", "int steps(int,int,int)",
        "int kept(int,int)", "int again(int,int)", "int both(int,int,int)", "int won()", "int plan(int)",
        "int after(int,int)", "int mean(int,int)", "int rate(int,int,int,int)", "int tell(int)", "int untell(int)",
        "int judged(int)", "int breaker(int,int,int)", "int worth(int,int,int)", "int write(long,int)", "int erase()",
        "int fault()", "int ask()", "int holds()", "int turned()", "int bought()", "int count(int)"};

    public static void main(String[] args) throws IOException {
        checkFace();
        String text = Files.readString(Path.of("src/main/java/OneMark.java"), StandardCharsets.UTF_8);
        checkSigns(text);
        CHECKS.end("LanguageTest");
    }

    private static void checkFace() {
        Set<String> found = new TreeSet<>();
        for (Method m : OneMark.class.getDeclaredMethods()) {
            if (Modifier.isPrivate(m.getModifiers())) continue;
            StringBuilder sign = new StringBuilder(m.getReturnType() + " " + m.getName() + "(");
            for (int i = 0; i < m.getParameterCount(); i++) sign.append(i == 0 ? "" : ",").append(m.getParameterTypes()[i]);
            found.add(sign.append(")").toString());
            CHECKS.isTrue("public: " + m, Modifier.isPublic(m.getModifiers()));
        }
        CHECKS.isTrue("the methods of the face: " + found, found.equals(new TreeSet<>(List.of(FACE))));
        Set<String> constants = new TreeSet<>();
        for (Field f : OneMark.class.getDeclaredFields()) if (!Modifier.isPrivate(f.getModifiers())) constants.add(f.getName());
        CHECKS.isTrue("the constants: " + constants,
            constants.equals(new TreeSet<>(List.of("NONE", "UNKNOWN", "OUTSIDE", "NOT", "FULL"))));
        Constructor<?>[] made = OneMark.class.getDeclaredConstructors();
        CHECKS.isTrue("one constructor", made.length == 1 && Modifier.isPublic(made[0].getModifiers()));
        CHECKS.isTrue("public and final", Modifier.isPublic(OneMark.class.getModifiers()) && Modifier.isFinal(OneMark.class.getModifiers()));
        checkInside();
    }

    private static void checkInside() {
        Set<String> face = new TreeSet<>();
        for (String sign : FACE) face.add(sign.substring(4, sign.indexOf('(')));
        List<Class<?>> classes = new ArrayList<>(List.of(OneMark.class.getDeclaredClasses()));
        CHECKS.isTrue("classes: " + classes.size(), classes.size() < 12);
        classes.add(OneMark.class);
        for (Class<?> c : classes) {
            boolean inside = c != OneMark.class;
            CHECKS.isTrue("static: " + c, !inside || Modifier.isStatic(c.getModifiers()) && !Modifier.isPublic(c.getModifiers()));
            for (Method m : c.getDeclaredMethods()) {
                CHECKS.isTrue("parameters: " + m, m.getParameterCount() <= 7);
                if (Modifier.isPrivate(m.getModifiers())) CHECKS.isTrue("a name of the face: " + m, !face.contains(m.getName()));
            }
            int fields = 0;
            for (Field f : c.getDeclaredFields()) {
                if (!Modifier.isStatic(f.getModifiers())) fields++;
                else CHECKS.isTrue("a final static: " + f, Modifier.isFinal(f.getModifiers()));
            }
            CHECKS.isTrue("fields of " + c + ": " + fields, fields <= 20);
        }
    }

    private static void checkSigns(String text) {
        for (int i = 0; i < text.length(); i++) {
            if (text.charAt(i) > 126) CHECKS.due("a sign of the program", text.charAt(i), ' ');
        }
    }
}
