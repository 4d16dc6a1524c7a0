import java.lang.reflect.Constructor;
import java.lang.reflect.Executable;
import java.lang.reflect.Field;
import java.lang.reflect.Member;
import java.lang.reflect.Method;
import java.lang.reflect.Modifier;
import java.nio.file.Files;
import java.nio.file.Path;
import java.util.HashSet;
import java.util.Set;
import java.util.TreeSet;
import java.util.regex.Matcher;
import java.util.regex.Pattern;

/** The public face, and those rules of LANGUAGE.md that can be looked at from outside. */
public final class FaceTests {
    private static final String[] FACE = {
        "int write(int)", "int wipe()", "int fault()", "int party()", "int moment(int)", "int candle(int, int)",
        "int guest(int, int)", "int light(int)", "int out(int)", "int trim(int, int)", "int step()", "int undo()",
        "int plan()", "int planOf(int)", "int bars()", "int share(int, boolean)", "int table(int, int)", "int pairs()",
        "int judge(int, int)", "int stub(int, int, boolean)", "int see(int)", "int unsee()", "int from(int)",
        "int next(int, int, boolean)", "int cut(int, int, int)", "int draught(int, int, int, boolean)",
        "long seed(long)", "int night(int)", "int keep(int)", "int again(int)", "int count(int)"};
    private static int wrong = 0;

    private static void hold(String what, boolean holds) {
        if (!holds) {
            wrong++;
            System.out.println("not so: " + what);
        }
    }

    public static void main(String[] args) throws Exception {
        publicFace();
        hiddenMembers();
        source(Files.readString(Path.of("src/main/java/TallowHours.java")));
        System.out.println(wrong == 0 ? "face: all is as due" : "face: " + wrong + " things are not as due");
        if (wrong != 0) System.exit(1);
    }

    private static String signature(Method m) {
        StringBuilder b = new StringBuilder(m.getReturnType().getName()).append(' ').append(m.getName()).append('(');
        for (int i = 0; i < m.getParameterCount(); i++) b.append(i == 0 ? "" : ", ").append(m.getParameterTypes()[i].getName());
        return b.append(')').toString();
    }

    private static void publicFace() {
        Set<String> want = new TreeSet<>(Set.of(FACE));
        Set<String> got = new TreeSet<>();
        for (Method m : TallowHours.class.getDeclaredMethods()) if (!Modifier.isPrivate(m.getModifiers())) got.add(signature(m));
        hold("the methods are " + want + " but not " + got, want.equals(got));
        hold("the class is public and final", Modifier.isPublic(TallowHours.class.getModifiers()) && Modifier.isFinal(TallowHours.class.getModifiers()));
        Constructor<?>[] all = TallowHours.class.getDeclaredConstructors();
        hold("one public constructor without parameters", all.length == 1 && Modifier.isPublic(all[0].getModifiers()) && all[0].getParameterCount() == 0);
        Set<String> constants = new TreeSet<>();
        for (Field f : TallowHours.class.getDeclaredFields()) if (!Modifier.isPrivate(f.getModifiers())) constants.add(f.getName());
        hold("the constants " + constants, constants.equals(new TreeSet<>(Set.of("UNKNOWN", "OUTSIDE", "STATE", "FULL", "NONE"))));
        hold("their values", TallowHours.UNKNOWN == -1 && TallowHours.OUTSIDE == -2 && TallowHours.STATE == -3 && TallowHours.FULL == -4 && TallowHours.NONE == -9);
    }

    private static void hiddenMembers() {
        Set<String> names = new HashSet<>();
        for (String s : FACE) names.add(s.substring(s.indexOf(' ') + 1, s.indexOf('(')));
        for (Method m : TallowHours.class.getDeclaredMethods()) hold(m + " bears a public name", !Modifier.isPrivate(m.getModifiers()) || !names.contains(m.getName()));
        fewParameters(TallowHours.class);
        Class<?>[] inside = TallowHours.class.getDeclaredClasses();
        hold("at most twelve classes", inside.length < 12);
        for (Class<?> c : inside) {
            hold(c + " is static, and not public", Modifier.isStatic(c.getModifiers()) && !Modifier.isPublic(c.getModifiers()) && !Modifier.isProtected(c.getModifiers()));
            for (Method m : c.getDeclaredMethods()) hold(m + " bears a public name", !names.contains(m.getName()));
            fewParameters(c);
        }
    }

    private static void fewParameters(Class<?> c) {
        int fields = 0;
        for (Field f : c.getDeclaredFields()) {
            if (Modifier.isStatic(f.getModifiers())) hold(f + " is final", Modifier.isFinal(f.getModifiers()));
            else fields++;
        }
        hold(c + " has some twenty fields at most", fields <= 20);
        for (Method m : c.getDeclaredMethods()) fewParameters(m, m);
        for (Constructor<?> k : c.getDeclaredConstructors()) fewParameters(k, k);
    }

    private static void fewParameters(Executable e, Member m) { hold(m + " takes at most seven", e.getParameterCount() <= 7); }

    private static void source(String source) {
        String code = source.replaceAll("(?s)/\\*.*?\\*/", "").replaceAll("//[^\n]*", "");
        Matcher m = Pattern.compile("\\b(throws?|try|catch|synchronized|assert|import|package|double|float|Exact|Object|static\\s*\\{)\\b|->|::|[a-z]Exact\\b").matcher(code);
        while (m.find()) hold("the source is free of " + m.group(), false);
        for (String line : code.split("\n")) {
            if (line.contains("new ")) hold("objects are made with their owner alone: " + line.trim(), line.trim().matches("(private |final )*[A-Za-z]+(\\[\\])? [a-zA-Z]+ = new .*;"));
        }
        hold("signs are 1 to 127", source.chars().allMatch(c -> c > 0 && c < 128));
        methodsAreShort(code);
    }

    private static void methodsAreShort(String code) {
        int since = 0, line = 0;
        for (String text : code.split("\n")) {
            line++;
            if (text.matches("    (    )?[a-z].*\\) \\{")) since = line;
            if (text.matches("    (    )?\\}") && since > 0) hold("the method at line " + since + " is short", line - since <= 60);
        }
    }
}
