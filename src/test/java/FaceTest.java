import java.io.IOException;
import java.lang.reflect.Constructor;
import java.lang.reflect.Field;
import java.lang.reflect.Method;
import java.lang.reflect.Modifier;
import java.nio.file.Files;
import java.nio.file.Path;
import java.util.ArrayList;
import java.util.Arrays;
import java.util.HashSet;
import java.util.List;
import java.util.Set;
import java.util.TreeSet;
import java.util.regex.Matcher;
import java.util.regex.Pattern;

/** Promises 1 to 30: the document's face, and those rules of LANGUAGE.md that can be seen from outside. */
public final class FaceTest {
    private static final Due DUE = new Due();
    private static final String[] FACE = {
        "int stone(int,int,int,int)", "int smash(int)", "int picture(int,int,int,int)", "int set(int,int)",
        "int hairs(int,int)", "int say(int)", "int wipe()", "int fault()", "int judge(int)", "int kinds(int)",
        "int behind(int,int)", "int fat(int,int)", "int sky(int)", "int done()", "int clean(int)",
        "int grind(int,int,int)", "int lives(int,int)", "int orders(int,int,int)", "int colours(int,int)",
        "long crack(int,int,int,int,int)", "int seen(int,int,boolean)", "int forget()", "int whose(int)",
        "int suspects()", "int next(int,int)", "int year(int,int,int)", "int image(int)", "int restore(int)",
        "int told(int)"};
    private static final String[] CONSTANTS = {
        "int UNKNOWN", "int OUTSIDE", "int STATE", "int FULL", "int NO", "int NONE", "long GONE"};

    public static void main(String[] args) throws IOException {
        constants();
        members();
        insideClasses();
        parameters();
        staticFields();
        words();
        methodsAreShort();
        DUE.end();
    }

    private static void constants() {
        DUE.is("UNKNOWN", StoneGhosts.UNKNOWN, -1);
        DUE.is("OUTSIDE", StoneGhosts.OUTSIDE, -2);
        DUE.is("STATE", StoneGhosts.STATE, -3);
        DUE.is("FULL", StoneGhosts.FULL, -4);
        DUE.is("NO", StoneGhosts.NO, -5);
        DUE.is("NONE", StoneGhosts.NONE, -6);
        DUE.is("GONE", StoneGhosts.GONE, -1000000000000000000L);
    }

    private static String told(Method m) {
        StringBuilder text = new StringBuilder(m.getReturnType() + " " + m.getName() + "(");
        for (int i = 0; i < m.getParameterCount(); i++) {
            text.append(i == 0 ? "" : ",").append(m.getParameterTypes()[i]);
        }
        return text.append(")").toString();
    }

    private static void members() {
        DUE.is("the class is public and final", StoneGhosts.class.getModifiers(), Modifier.PUBLIC | Modifier.FINAL);
        Set<String> face = new TreeSet<>();
        Set<String> publicNames = new HashSet<>();
        for (Method m : StoneGhosts.class.getDeclaredMethods()) {
            if (Modifier.isPublic(m.getModifiers())) {
                DUE.holds(m + " is not static", !Modifier.isStatic(m.getModifiers()));
                face.add(told(m));
                publicNames.add(m.getName());
            }
        }
        DUE.holds("the methods are those of the document: " + face, face.equals(new TreeSet<>(Arrays.asList(FACE))));
        for (Method m : StoneGhosts.class.getDeclaredMethods()) {
            boolean isPrivate = Modifier.isPrivate(m.getModifiers());
            DUE.holds(m + " is public or private", isPrivate || Modifier.isPublic(m.getModifiers()));
            DUE.holds(m + " has a name of its own", !isPrivate || !publicNames.contains(m.getName()));
        }
        Set<String> constants = new TreeSet<>();
        for (Field f : StoneGhosts.class.getDeclaredFields()) {
            if (!Modifier.isPrivate(f.getModifiers())) {
                DUE.is(f + "", f.getModifiers(), Modifier.PUBLIC | Modifier.STATIC | Modifier.FINAL);
                constants.add(f.getType() + " " + f.getName());
            }
        }
        DUE.holds("the constants are those of the document", constants.equals(new TreeSet<>(Arrays.asList(CONSTANTS))));
        Constructor<?>[] all = StoneGhosts.class.getDeclaredConstructors();
        DUE.is("constructors", all.length, 1);
        DUE.is("it takes", all[0].getParameterCount(), 0);
        DUE.is("it is public", all[0].getModifiers(), Modifier.PUBLIC);
    }

    private static void insideClasses() {
        Class<?>[] inside = StoneGhosts.class.getDeclaredClasses();
        DUE.holds("some twelve classes at most", inside.length < 12);
        for (Class<?> c : inside) {
            DUE.holds(c + " is static", Modifier.isStatic(c.getModifiers()));
            DUE.holds(c + " is not public", !Modifier.isPublic(c.getModifiers()));
            DUE.holds(c + " has twenty fields at most", c.getDeclaredFields().length <= 20);
            for (Field f : c.getDeclaredFields()) {
                DUE.holds(f + " is no static state", !Modifier.isStatic(f.getModifiers()));
            }
        }
    }

    private static List<Class<?>> allClasses() {
        List<Class<?>> all = new ArrayList<>(Arrays.asList(StoneGhosts.class.getDeclaredClasses()));
        all.add(StoneGhosts.class);
        return all;
    }

    /** Rule 11: a method takes at most seven parameters. */
    private static void parameters() {
        for (Class<?> c : allClasses()) {
            for (Method m : c.getDeclaredMethods()) {
                DUE.holds(m + " takes seven at most", m.getParameterCount() <= 7);
            }
        }
    }

    /** Rule 5: static fields are final, and constants; rule 11: some twenty fields beside these. */
    private static void staticFields() {
        int own = 0;
        for (Field f : StoneGhosts.class.getDeclaredFields()) {
            boolean isStatic = Modifier.isStatic(f.getModifiers());
            own += isStatic ? 0 : 1;
            DUE.holds(f + " is final", Modifier.isFinal(f.getModifiers()));
            DUE.holds(f + " is a constant", !isStatic || f.getType() == int.class || f.getType() == long.class);
        }
        DUE.holds("twenty fields at most", own <= 20);
    }

    private static String code() throws IOException {
        String source = Files.readString(Path.of("src/main/java/StoneGhosts.java"));
        return source.replaceAll("(?s)/\\*.*?\\*/", "").replaceAll("//[^\n]*", "");
    }

    /** Rule 11: methods stay short (some sixty lines). */
    private static void methodsAreShort() throws IOException {
        String[] lines = code().split("\n");
        int methods = 0;
        for (int i = 0; i < lines.length; i++) {
            Matcher head = Pattern.compile("( +)[\\w\\[\\] ]*\\b(\\w+)\\([^;]*").matcher(lines[i]);
            if (!head.matches() || head.group(1).length() > 8 || !lines[i].endsWith(") {") || lines[i].matches(" *(if|for|while|switch)\\b.*")) {
                continue;
            }
            methods++;
            int end = i;
            while (end < lines.length && !lines[end].equals(head.group(1) + "}")) end++;
            DUE.holds(head.group(2) + " is short", end - i < 60);
        }
        DUE.holds("methods are found: " + methods, methods > 80);
    }

    /** The source without comments has no word that LANGUAGE.md rules out. */
    private static void words() throws IOException {
        String code = code();
        Pattern bad = Pattern.compile("\\b(throw|throws|try|catch|finally|synchronized|assert|import|package|"
            + "protected|double|float|equals|hashCode|toString|volatile|native|Random|Thread)\\b"
            + "|\\w+Exact\\b|->|::|\"");
        Matcher m = bad.matcher(code);
        DUE.holds("a word that is ruled out" , !m.find());
    }
}
