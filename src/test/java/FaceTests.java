import java.lang.reflect.Constructor;
import java.lang.reflect.Executable;
import java.lang.reflect.Field;
import java.lang.reflect.Member;
import java.lang.reflect.Method;
import java.lang.reflect.Modifier;
import java.nio.file.Files;
import java.nio.file.Path;
import java.util.HashSet;
import java.util.Set;
import java.util.TreeSet;
import java.util.regex.Matcher;
import java.util.regex.Pattern;

/** The public face, and those rules of LANGUAGE.md that can be looked at from outside. */
public final class FaceTests {
    private static final Path DOCUMENT = Path.of("../shared/DOC.md");
    private static final int METHODS = 31;
    private static int wrong = 0;

    private static void hold(String what, boolean holds) {
        if (!holds) {
            wrong++;
            System.out.println("not so: " + what);
        }
    }

    public static void main(String[] args) throws Exception {
        String document = Files.readString(DOCUMENT);
        String source = Files.readString(Path.of("src/main/java/TallowHours.java"));
        Set<String> face = faceOf(document);
        publicFace(face);
        constants(document);
        hiddenMembers(face);
        groups(document, source);
        source(source);
        System.out.println(wrong == 0 ? "face: all is as due" : "face: " + wrong + " things are not as due");
        if (wrong != 0) System.exit(1);
    }

    /** The methods that the document's section "The public face" gives, without their parameters' names. */
    private static Set<String> faceOf(String document) {
        Set<String> face = new TreeSet<>();
        Matcher m = Pattern.compile("public (int|long) (\\w+)\\(([^)]*)\\);").matcher(document);
        while (m.find()) face.add(m.group(1) + " " + m.group(2) + "(" + m.group(3).replaceAll("(int|long|boolean) \\w+", "$1") + ")");
        hold("the document gives " + METHODS + " methods", face.size() == METHODS);
        return face;
    }

    private static String signature(Method m) {
        StringBuilder b = new StringBuilder(m.getReturnType().getName()).append(' ').append(m.getName()).append('(');
        for (int i = 0; i < m.getParameterCount(); i++) b.append(i == 0 ? "" : ", ").append(m.getParameterTypes()[i].getName());
        return b.append(')').toString();
    }

    private static void publicFace(Set<String> face) {
        Set<String> got = new TreeSet<>();
        for (Method m : TallowHours.class.getDeclaredMethods()) {
            if (Modifier.isPrivate(m.getModifiers())) continue;
            hold(m + " is public, of an object, and throws nothing", Modifier.isPublic(m.getModifiers())
                && !Modifier.isStatic(m.getModifiers()) && m.getExceptionTypes().length == 0);
            got.add(signature(m));
        }
        hold("the methods are " + face + " but not " + got, face.equals(got));
        hold("the class is public and final", Modifier.isPublic(TallowHours.class.getModifiers()) && Modifier.isFinal(TallowHours.class.getModifiers()));
        hold("it extends and implements nothing", TallowHours.class.getSuperclass() == Object.class && TallowHours.class.getInterfaces().length == 0);
        Constructor<?>[] all = TallowHours.class.getDeclaredConstructors();
        hold("one public constructor without parameters", all.length == 1 && Modifier.isPublic(all[0].getModifiers()) && all[0].getParameterCount() == 0);
    }

    private static void constants(String document) throws Exception {
        Set<String> want = new TreeSet<>();
        Matcher line = Pattern.compile("public static final int ([^;]*);").matcher(document);
        while (line.find()) want.addAll(Set.of(line.group(1).split(", ")));
        Set<String> got = new TreeSet<>();
        for (Field f : TallowHours.class.getDeclaredFields()) {
            if (Modifier.isPrivate(f.getModifiers())) continue;
            hold(f + " is a public constant", Modifier.isPublic(f.getModifiers()) && Modifier.isStatic(f.getModifiers()) && Modifier.isFinal(f.getModifiers()));
            got.add(f.getName() + " = " + f.getInt(null));
        }
        hold("the constants are " + want + " but not " + got, want.size() == 5 && want.equals(got));
    }

    /** Each group of calls stands behind the line that the interface says ahead of it. */
    private static void groups(String document, String source) {
        Matcher m = Pattern.compile("Ahead of the calls (.*) the interface says: (---- .*)\\.").matcher(document);
        int groups = 0;
        while (m.find()) {
            groups++;
            int from = source.indexOf("// " + m.group(2) + "\n");
            int to = source.indexOf("// ----", from + 1);
            hold("the source says " + m.group(2), from >= 0);
            for (String call : m.group(1).split(", ")) {
                int at = source.indexOf(" " + call.replace("`", "") + "(", Math.max(from, 0));
                hold(call + " stands behind " + m.group(2), at > from && (to < 0 || at < to));
            }
        }
        hold("there are six groups", groups == 6);
    }

    private static void hiddenMembers(Set<String> face) {
        Set<String> names = new HashSet<>();
        for (String s : face) names.add(s.substring(s.indexOf(' ') + 1, s.indexOf('(')));
        for (Method m : TallowHours.class.getDeclaredMethods()) hold(m + " bears a public name", !Modifier.isPrivate(m.getModifiers()) || !names.contains(m.getName()));
        fewParameters(TallowHours.class);
        Class<?>[] inside = TallowHours.class.getDeclaredClasses();
        hold("at most twelve classes", inside.length < 12);
        for (Class<?> c : inside) {
            hold(c + " is static, and not public", Modifier.isStatic(c.getModifiers()) && !Modifier.isPublic(c.getModifiers()) && !Modifier.isProtected(c.getModifiers()));
            for (Method m : c.getDeclaredMethods()) hold(m + " bears a public name", !names.contains(m.getName()));
            fewParameters(c);
        }
    }

    private static void fewParameters(Class<?> c) {
        int fields = 0;
        for (Field f : c.getDeclaredFields()) {
            if (Modifier.isStatic(f.getModifiers())) hold(f + " is final", Modifier.isFinal(f.getModifiers()));
            else fields++;
        }
        hold(c + " has some twenty fields at most", fields <= 20);
        for (Method m : c.getDeclaredMethods()) fewParameters(m, m);
        for (Constructor<?> k : c.getDeclaredConstructors()) fewParameters(k, k);
    }

    private static void fewParameters(Executable e, Member m) { hold(m + " takes at most seven", e.getParameterCount() <= 7); }

    private static void source(String source) {
        String code = source.replaceAll("(?s)/\\*.*?\\*/", "").replaceAll("//[^\n]*", "");
        Matcher m = Pattern.compile("\\b(throws?|try|catch|synchronized|assert|import|package|double|float|Exact|Object|static\\s*\\{)\\b|->|::|[a-z]Exact\\b").matcher(code);
        while (m.find()) hold("the source is free of " + m.group(), false);
        for (String line : code.split("\n")) {
            if (line.contains("new ")) hold("objects are made with their owner alone: " + line.trim(), line.trim().matches("(private |final )*[A-Za-z]+(\\[\\])? [a-zA-Z]+ = new .*;"));
        }
        hold("signs are 1 to 127", source.chars().allMatch(c -> c > 0 && c < 128));
        methodsAreShort(code);
        recursionIsPlain(code);
    }

    /** Rule 8: a method that calls itself is private and static. */
    private static void recursionIsPlain(String code) {
        Matcher m = Pattern.compile("(?ms)^( +)([^\\n;={}]*?(\\w+)\\([^;{}]*\\)) \\{\\n(.*?)^\\1\\}").matcher(code);
        int methods = 0;
        for (int at = 0; m.find(at); at = m.end(2)) {
            String name = m.group(3);
            if (m.group(2).matches("(if|for|while|switch|\\}).*")) continue;
            methods++;
            boolean callsItself = Pattern.compile("(?<![.\\w])" + name + "\\(").matcher(m.group(4)).find();
            hold(name + " calls itself, and is private and static", !callsItself || m.group(2).contains("private static "));
        }
        hold("the methods were found", methods > METHODS);
    }

    private static void methodsAreShort(String code) {
        int since = 0, line = 0;
        for (String text : code.split("\n")) {
            line++;
            if (text.matches("    (    )?[a-z].*\\) \\{")) since = line;
            if (text.matches("    (    )?\\}") && since > 0) hold("the method at line " + since + " is short", line - since <= 60);
        }
    }
}
