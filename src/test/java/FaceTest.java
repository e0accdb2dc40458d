import java.lang.reflect.Constructor;
import java.lang.reflect.Field;
import java.lang.reflect.Member;
import java.lang.reflect.Method;
import java.lang.reflect.Modifier;
import java.nio.file.Files;
import java.nio.file.Path;
import java.util.ArrayList;
import java.util.Arrays;
import java.util.List;
import java.util.Set;
import java.util.TreeSet;
import java.util.regex.Matcher;
import java.util.regex.Pattern;

/** The public face against the one in ../shared/DOC.md, and those rules of LANGUAGE.md that can be looked for. */
public final class FaceTest {
    private static final Path DOCUMENT = Path.of("..", "shared", "DOC.md");
    private static final Path SOURCE = Path.of("src", "main", "java", "BlackCabinet.java");
    private static int wrong = 0;

    public static void main(String[] args) throws Exception {
        face();
        classes();
        source(withoutTextsAndComments(Files.readString(SOURCE)));
        System.out.println(wrong == 0 ? "the face and the language are as due" : wrong + " breaches");
        if (wrong != 0) {
            System.exit(1);
        }
    }

    private static void breach(String what) {
        wrong++;
        System.out.println(what);
    }

    private static void face() throws Exception {
        Set<String> due = new TreeSet<>();
        Matcher m = Pattern.compile("(?m)^    public (int|long) (\\w+)\\((.*)\\);$").matcher(Files.readString(DOCUMENT));
        while (m.find()) {
            due.add(m.group(1) + " " + m.group(2) + "(" + m.group(3).replaceAll("(int|long) \\w+", "$1") + ")");
        }
        Set<String> got = new TreeSet<>();
        for (Method method : BlackCabinet.class.getDeclaredMethods()) {
            if (!Modifier.isPrivate(method.getModifiers()) && !method.isSynthetic()) {
                List<String> types = new ArrayList<>();
                for (Class<?> type : method.getParameterTypes()) {
                    types.add(type.getName());
                }
                got.add(method.getReturnType().getName() + " " + method.getName() + "(" + String.join(", ", types) + ")");
                if (!Modifier.isPublic(method.getModifiers()) || Modifier.isStatic(method.getModifiers())) {
                    breach("not public, or static: " + method);
                }
            }
        }
        if (due.size() != 47 || !due.equals(got)) {
            breach("the document has " + due + ", the class " + got);
        }
        Constructor<?>[] made = BlackCabinet.class.getDeclaredConstructors();
        if (made.length != 1 || made[0].getParameterCount() != 0 || !Modifier.isPublic(made[0].getModifiers())) {
            breach("the constructors are " + Arrays.toString(made));
        }
        int kind = BlackCabinet.class.getModifiers();
        if (!Modifier.isPublic(kind) || !Modifier.isFinal(kind)) {
            breach("the class is not public and final");
        }
    }

    private static void classes() {
        Set<String> publicNames = new TreeSet<>();
        for (Method method : BlackCabinet.class.getDeclaredMethods()) {
            if (Modifier.isPublic(method.getModifiers())) {
                publicNames.add(method.getName());
            }
        }
        List<Class<?>> all = new ArrayList<>(List.of(BlackCabinet.class.getDeclaredClasses()));
        if (all.size() > 12) {
            breach("there are " + all.size() + " classes inside");
        }
        for (Class<?> inside : all) {
            if (!Modifier.isStatic(inside.getModifiers())) {
                breach(inside + " isn't static");
            }
            for (Method method : inside.getDeclaredMethods()) {
                if (publicNames.contains(method.getName())) {
                    breach(method + " bears a public name");
                }
            }
        }
        for (Method method : BlackCabinet.class.getDeclaredMethods()) {
            if (Modifier.isPrivate(method.getModifiers()) && publicNames.contains(method.getName())) {
                breach(method + " bears a public name");
            }
        }
        all.add(BlackCabinet.class);
        for (Class<?> one : all) {
            members(one);
        }
    }

    private static void members(Class<?> one) {
        int fields = 0;
        for (Field field : one.getDeclaredFields()) {
            boolean constant = Modifier.isStatic(field.getModifiers());
            fields += constant ? 0 : 1;
            if (constant && !Modifier.isFinal(field.getModifiers())) {
                breach(field + " is static and not final");
            }
            boolean isNone = field.getName().equals("NONE") && one == BlackCabinet.class;
            if (one == BlackCabinet.class && Modifier.isPrivate(field.getModifiers()) == isNone) {
                breach(field + " is seen as it shouldn't");
            }
        }
        if (fields > 20) {
            breach(one + " has " + fields + " fields");
        }
        List<Member> members = new ArrayList<>(List.of(one.getDeclaredMethods()));
        for (Member member : members) {
            if (((Method) member).getParameterCount() > 7) {
                breach(member + " has more than seven parameters");
            }
        }
    }

    private static String withoutTextsAndComments(String s) {
        return s.replaceAll("\"(\\\\.|[^\"\\\\])*\"", "\"\"").replaceAll("'(\\\\.|[^'\\\\])'", "' '")
            .replaceAll("(?s)/\\*.*?\\*/", "").replaceAll("//[^\n]*", "");
    }

    private static void source(String s) {
        String[] none = {"\\bthrow\\b", "\\bthrows\\b", "\\btry\\b", "\\bcatch\\b", "\\bsynchronized\\b", "\\bassert\\b", "->", "::",
            "\\bstatic\\s*\\{", "\\bpackage\\b", "\\w+Exact\\b", "\\bnull\\b", "\\bObject\\b", "\\bSystem\\.(?!arraycopy\\b)",
            "\\bnew\\s+\\w+\\([^)]*\\)\\s*\\{", "\\bfinalize\\b", "\\bvolatile\\b", "\\btransient\\b", "\\bnative\\b"};
        for (String pattern : none) {
            Matcher m = Pattern.compile(pattern).matcher(s);
            if (m.find()) {
                breach("the source has " + m.group());
            }
        }
        Matcher m = Pattern.compile("import ([\\w.*]+);").matcher(s);
        while (m.find()) {
            if (!m.group(1).matches("java\\.util\\.(Arrays|ArrayList|List|Iterator)")) {
                breach("the source imports " + m.group(1));
            }
        }
        if (s.chars().anyMatch(c -> c > 126)) {
            breach("the source has a sign above 126");
        }
        library(s);
        methodLengths(s);
    }

    /** Rule 4 names functions of the library alone, so a constant of it (Integer.MAX_VALUE) is a breach too. */
    private static void library(String s) {
        Matcher m = Pattern.compile("\\b(Integer|Long|Math|System|Arrays|List|String|StringBuilder)\\s*\\.\\s*(\\w+)(\\s*\\()?").matcher(s);
        while (m.find()) {
            boolean known = m.group(1).matches("Integer|Long|Math") ? !m.group(2).endsWith("Exact")
                : Set.of("System.arraycopy", "Arrays.copyOf", "Arrays.copyOfRange", "Arrays.fill", "List.of")
                    .contains(m.group(1) + "." + m.group(2));
            if (!known || m.group(3) == null) {
                breach("the source uses " + m.group());
            }
        }
    }

    private static void methodLengths(String s) {
        String[] lines = s.split("\n");
        int start = 0;
        int indent = 0;
        for (int i = 0; i < lines.length; i++) {
            int spaces = lines[i].length() - lines[i].stripLeading().length();
            if (lines[i].matches("( {4}| {8})\\S.*\\(.*\\) \\{")) {
                start = i;
                indent = spaces;
            }
            if (lines[i].strip().equals("}") && spaces == indent && i - start > 60) {
                breach("a method of " + (i - start) + " lines at " + lines[start].strip());
                start = i;
            }
        }
    }
}
