import java.lang.reflect.Constructor;
import java.lang.reflect.Executable;
import java.lang.reflect.Field;
import java.lang.reflect.Method;
import java.lang.reflect.Modifier;
import java.nio.charset.StandardCharsets;
import java.nio.file.Files;
import java.nio.file.Path;
import java.util.ArrayList;
import java.util.List;
import java.util.Set;
import java.util.TreeSet;
import java.util.regex.Matcher;
import java.util.regex.Pattern;

/** Looks whether the program keeps to those rules of LANGUAGE.md that its text and its face show. */
public final class LanguageTests {
    private static final Path SOURCE = Path.of("src/main/java/EachSeesTheNext.java");
    private static final String[] BANNED = {
        "\\bthrows?\\b", "\\btry\\b", "\\bcatch\\b", "\\bsynchronized\\b", "\\bassert\\b", "->", "::",
        "\\bpackage\\b", "\\bstatic\\s*\\{", "\\bthis\\s*\\)", "@", "\\bvar\\b", "\\bvolatile\\b", "\\bnative\\b",
        "\\bprotected\\b", "\\bextends\\b", "Exact\\b", "\\b(equals|hashCode|toString)\\s*\\(", "\\bnull\\b",
        "\\bSystem\\.(?!arraycopy\\b)", "\\bArrays\\.(?!(fill|copyOf|copyOfRange)\\b)", "\\bnew (Object|Thread|Random)\\b",
        "\\bInteger\\.[A-Z]", "\\b(Random|Thread|Runtime|ProcessBuilder|Class)\\b", "[^\\x00-\\x7f]",
    };
    private static int wrong = 0;

    public static void main(String[] args) throws Exception {
        String code = stripped(Files.readString(SOURCE, StandardCharsets.UTF_8));
        for (String banned : BANNED) {
            Matcher m = Pattern.compile(banned).matcher(code);
            if (m.find()) {
                say("the source has '" + m.group() + "'");
            }
        }
        imports(code);
        methodLengths(code);
        List<Class<?>> classes = new ArrayList<>(List.of(EachSeesTheNext.class));
        classes.addAll(List.of(EachSeesTheNext.class.getDeclaredClasses()));
        if (classes.size() > 12) {
            say(classes.size() + " classes");
        }
        Set<String> face = new TreeSet<>();
        for (Method m : EachSeesTheNext.class.getDeclaredMethods()) {
            if (Modifier.isPublic(m.getModifiers())) {
                face.add(m.getName());
            }
        }
        for (Class<?> c : classes) {
            look(c, face);
        }
        System.out.println(wrong == 0 ? "LanguageTests: the rules are kept" : "LanguageTests: " + wrong + " wrong");
        if (wrong != 0) {
            System.exit(1);
        }
    }

    private static void say(String what) {
        wrong++;
        System.out.println("LANGUAGE.md: " + what);
    }

    private static String stripped(String source) {
        return source.replaceAll("(?s)/\\*.*?\\*/", "").replaceAll("//[^\n]*", "")
            .replaceAll("\"[^\"\n]*\"", "\"\"");
    }

    private static void imports(String code) {
        Matcher m = Pattern.compile("(?m)^import (.*);$").matcher(code);
        while (m.find()) {
            if (!m.group(1).matches("java\\.util\\.(Arrays|ArrayList|List|Iterator)")) {
                say("import " + m.group(1));
            }
        }
    }

    private static void methodLengths(String code) {
        Matcher m = Pattern.compile("(?m)^( +)[\\w\\[\\]. ]+\\([^;\n]*\\) \\{\n((?:\\1 .*\n|\n)*)\\1\\}").matcher(code);
        int methods = 0;
        while (m.find()) {
            methods++;
            if (m.group(2).lines().count() > 60) {
                say("a method of " + m.group(2).lines().count() + " lines");
            }
        }
        if (methods < 100) {
            say("only " + methods + " methods were found to be measured");
        }
    }

    private static void look(Class<?> c, Set<String> face) {
        int fields = 0;
        for (Field f : c.getDeclaredFields()) {
            boolean isStatic = Modifier.isStatic(f.getModifiers());
            fields += isStatic ? 0 : 1;
            if (isStatic && !Modifier.isFinal(f.getModifiers())) {
                say("static " + f.getName() + " of " + c.getName() + " is not final");
            }
            if (isStatic && !f.getType().isPrimitive() && f.getType() != String.class) {
                say("static " + f.getName() + " of " + c.getName() + " is not a number or a text");
            }
            if (c == EachSeesTheNext.class && !Modifier.isPrivate(f.getModifiers())) {
                say("field " + f.getName() + " is not private");
            }
        }
        if (fields > 20) {
            say(c.getName() + " has " + fields + " fields");
        }
        if (c != EachSeesTheNext.class && !Modifier.isStatic(c.getModifiers())) {
            say(c.getName() + " is not static");
        }
        for (Constructor<?> made : c.getDeclaredConstructors()) {
            parameters(c, made);
        }
        for (Method m : c.getDeclaredMethods()) {
            parameters(c, m);
            boolean isFace = c == EachSeesTheNext.class && Modifier.isPublic(m.getModifiers());
            if (!isFace && face.contains(m.getName())) {
                say(c.getName() + "." + m.getName() + " bears the name of a public one");
            }
        }
    }

    private static void parameters(Class<?> c, Executable e) {
        if (e.getParameterCount() > 7) {
            say(c.getName() + "." + e.getName() + " takes " + e.getParameterCount() + " parameters");
        }
    }
}
