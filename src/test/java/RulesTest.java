import java.lang.reflect.Constructor;
import java.lang.reflect.Field;
import java.lang.reflect.Method;
import java.lang.reflect.Modifier;
import java.nio.file.Files;
import java.nio.file.Path;
import java.util.Arrays;
import java.util.List;
import java.util.Set;
import java.util.TreeSet;
import java.util.regex.Matcher;
import java.util.regex.Pattern;

/** The document's public face, and those rules of LANGUAGE.md that can be seen by a program. */
public final class RulesTest {
    private static final String FACE =
        "int word(int,int) int whole(int) long bits(int) int place(int) int sent(int,int,int) int covers(int,int) "
        + "long lacks(int,int) int between(int,int,int,int) int distance(int,int,int) int shortest(int,int) "
        + "int versions(int,int) int weak(int,int,int) int link(int,int,int,int,int) int limit(int) int fade(int) "
        + "int offer(int) int send(int,int,int) int answer(int,int) int burst(int,int,int,int) int tick(int) int report() "
        + "int run(int,int,int,int) int drain() int drained(int) int worst(int,int) int process(int,int) int kept(int,int) "
        + "int again(int) int waiting(int) int next(int,int) int enough(int,int,int) int soft(int,int) int heard(int,int) "
        + "int best(int) int sum(int,int) int margin(int) int second(int) int lean(int,int) int ties(int,int) "
        + "int rank(int,int) int listed(int,int) int against(int,int) int known(int,int) int wrong(int) int stored(int) "
        + "int gaps(int) int given(int) int would(int,int) int tray(int,int) int write(int,int,int) int lists(int,int) "
        + "int image(int) int restore(int) int count(int)";
    private static final String[] FORBIDDEN = {
        "\\bthrow\\b", "\\btry\\b", "\\bcatch\\b", "\\bsynchronized\\b", "\\bassert\\b", "->", "::", "\\bExact\\b", "System\\.out",
        "\\bObject\\b", "\\bequals\\b", "\\bhashCode\\b", "\\btoString\\b", "\\bpackage\\b", "\\bprotected\\b", "\\bvolatile\\b",
        "\\bThread\\b", "\\bRandom\\b", "\\bMap\\b", "\\bSet\\b", "\\bvar\\b", "static \\{", "while \\(true\\)", "for \\(;;\\)",
    };
    private static int wrong = 0;

    private static void hold(boolean holds, String what) {
        if (!holds) {
            wrong++;
            System.out.println("not so: " + what);
        }
    }

    public static void main(String[] args) throws Exception {
        face();
        classes();
        source(Files.readString(Path.of("src/main/java/FadeJoiner.java")));
        System.out.println(wrong == 0 ? "the rules that can be seen are kept" : wrong + " rules are not kept");
        System.exit(wrong == 0 ? 0 : 1);
    }

    private static void face() throws Exception {
        Class<?> c = FadeJoiner.class;
        hold(Modifier.isPublic(c.getModifiers()) && Modifier.isFinal(c.getModifiers()), "the class is public and final");
        Set<String> due = new TreeSet<>();
        Matcher m = Pattern.compile("(int|long) \\w+\\([^)]*\\)").matcher(FACE);
        while (m.find()) {
            due.add(m.group());
        }
        Set<String> got = new TreeSet<>();
        for (Method method : c.getDeclaredMethods()) {
            if (Modifier.isPrivate(method.getModifiers())) {
                hold(!FACE.contains(" " + method.getName() + "("), "private method " + method.getName() + " has a name of its own");
                continue;
            }
            hold(method.getModifiers() == Modifier.PUBLIC, method + " is public and no more");
            String types = Arrays.toString(method.getParameterTypes()).replaceAll("[\\[\\] ]", "");
            got.add(method.getReturnType() + " " + method.getName() + "(" + types + ")");
        }
        hold(got.equals(due), "the methods are the document's: " + got);
        Constructor<?>[] constructors = c.getDeclaredConstructors();
        hold(constructors.length == 1 && constructors[0].getModifiers() == Modifier.PUBLIC
            && constructors[0].getParameterCount() == 0, "one public constructor");
        for (Field field : c.getDeclaredFields()) {
            hold(Modifier.isPrivate(field.getModifiers()) || field.getName().equals("NONE"), field + " is private");
        }
        hold(FadeJoiner.NONE == -1 && Modifier.isFinal(c.getDeclaredField("NONE").getModifiers()), "NONE is -1");
    }

    private static void classes() {
        Class<?>[] inner = FadeJoiner.class.getDeclaredClasses();
        hold(inner.length + 1 <= 12, "at most twelve classes");
        for (Class<?> c : inner) {
            hold(Modifier.isStatic(c.getModifiers()) && !Modifier.isPublic(c.getModifiers()), c + " is static and not public");
            int fields = 0;
            for (Field field : c.getDeclaredFields()) {
                boolean fixed = Modifier.isStatic(field.getModifiers());
                hold(!fixed || Modifier.isFinal(field.getModifiers()), field + " is final, if static");
                fields += fixed ? 0 : 1;
            }
            hold(fields <= 20, c + " has at most twenty fields");
            for (Method method : c.getDeclaredMethods()) {
                hold(!FACE.contains(" " + method.getName() + "("), method + " has a name of its own");
                hold(method.getParameterCount() <= 7, method + " takes at most seven parameters");
            }
        }
    }

    private static void source(String text) {
        hold(text.chars().allMatch(c -> c < 128), "signs below 128");
        String code = text.replaceAll("(?s)/\\*.*?\\*/", "").replaceAll("//[^\n]*", "");
        for (String pattern : FORBIDDEN) {
            hold(!Pattern.compile(pattern).matcher(code.replace("static final", "")).find(), "no " + pattern);
        }
        Matcher imports = Pattern.compile("import ([^;]*);").matcher(code);
        while (imports.find()) {
            hold(List.of("java.util.Arrays", "java.util.ArrayList", "java.util.List").contains(imports.group(1)), imports.group());
        }
        Matcher used = Pattern.compile("\\b(Integer|Long|Math|Arrays|System)\\.(\\w+)").matcher(code);
        while (used.find()) {
            hold(List.of("bitCount", "max", "min", "fill", "arraycopy").contains(used.group(2)),
                used.group() + " is of the library that is left");
        }
        methodLengths(text.split("\n"));
    }

    private static void methodLengths(String[] lines) {
        Pattern head = Pattern.compile("^( {4}| {8})(?! )[^=;]*\\)( \\{)$");
        for (int i = 0; i < lines.length; i++) {
            if (head.matcher(lines[i]).matches() && !lines[i].contains(" new ")) {
                String indent = lines[i].replaceAll("\\S.*", "");
                int end = i;
                while (end < lines.length && !lines[end].equals(indent + "}")) {
                    end++;
                }
                hold(end - i < 60, "short: " + lines[i].trim() + ", " + (end - i) + " lines");
            }
        }
    }
}
