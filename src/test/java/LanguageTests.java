import java.io.IOException;
import java.lang.reflect.Field;
import java.lang.reflect.Method;
import java.lang.reflect.Modifier;
import java.nio.file.Files;
import java.nio.file.Path;
import java.util.Set;
import java.util.TreeSet;
import java.util.regex.Matcher;
import java.util.regex.Pattern;

/** The document's face, and those rules of LANGUAGE.md that can be looked up; runs in the project's root. */
public final class LanguageTests {
    private static final String[] FACE = {"letter(int)", "blank()", "fault()", "plant()", "alter(int,int)", "has(int)", "start(int,int)",
        "limit(int)", "tick(int)", "row(boolean,int,int)", "about(int)", "gain(boolean,int,int)", "after(boolean,int,int,int)",
        "input(int,int)", "most(boolean)", "plan(int)", "count(int)", "digest()"};
    private static final String[] FORBIDDEN = {"\\bthrow\\b", "\\bthrows\\b", "\\btry\\b", "\\bcatch\\b", "\\bsynchronized\\b", "\\bassert\\b",
        "->", "::", "\\bimport\\b", "\\bpackage\\b", "\\bprotected\\b", "Exact\\b", "\\bSystem\\.(?!arraycopy)", "\\bstatic\\s*\\{", "\\bvar\\b",
        "\\btoString\\b", "\\bhashCode\\b", "[^\\x00-\\x7f]"};

    private static final Set<Class<?>> CONSTANTS = Set.of(int.class, long.class, boolean.class, char.class, String.class,
        int[].class, long[].class, char[].class, byte[].class);
    private static final String LIBRARY = "(Math|Integer|Long)\\.(abs|max|min|compare|floorDiv|floorMod|bitCount)|System\\.arraycopy|Arrays\\.(copyOf|copyOfRange|fill)";

    private static int wrong = 0;

    public static void main(String[] args) throws IOException {
        face();
        statics(RestGains.class);
        for (Class<?> inside : RestGains.class.getDeclaredClasses()) {
            check(Modifier.isStatic(inside.getModifiers()) && !Modifier.isPublic(inside.getModifiers()), inside + " is static and not public");
            statics(inside);
            for (Method method : inside.getDeclaredMethods()) {
                check(!isFaceName(method.getName()), method + " bears no name of the face");
                check(method.getParameterCount() <= 7, method + " takes at most seven");
            }
        }
        check(RestGains.class.getDeclaredClasses().length < 12, "at most twelve classes");
        source(Files.readString(Path.of("src/main/java/RestGains.java")));
        System.out.println(wrong == 0 ? "the face and the rules are kept" : wrong + " rules are broken");
        if (wrong != 0) {
            System.exit(1);
        }
    }

    private static void check(boolean kept, String rule) {
        if (!kept) {
            wrong++;
            System.out.println("not kept: " + rule);
        }
    }

    private static boolean isFaceName(String name) {
        for (String call : FACE) {
            if (call.startsWith(name + "(")) {
                return true;
            }
        }
        return false;
    }

    private static void face() {
        Set<String> due = new TreeSet<>(Set.of(FACE));
        Set<String> got = new TreeSet<>();
        for (Method method : RestGains.class.getDeclaredMethods()) {
            StringBuilder call = new StringBuilder(method.getName()).append('(');
            for (Class<?> type : method.getParameterTypes()) {
                call.append(call.charAt(call.length() - 1) == '(' ? "" : ",").append(type.getName());
            }
            if (Modifier.isPublic(method.getModifiers())) {
                got.add(call.append(')').toString());
                check(method.getReturnType() == long.class && !Modifier.isStatic(method.getModifiers()), method + " answers a long");
            } else {
                check(Modifier.isPrivate(method.getModifiers()), method + " is private");
                check(!isFaceName(method.getName()), method + " bears no name of the face");
            }
            check(method.getParameterCount() <= 7, method + " takes at most seven");
        }
        check(due.equals(got), "the calls are " + due + ", got " + got);
        check(RestGains.class.getConstructors().length == 1 && RestGains.class.getDeclaredConstructors().length == 1, "one constructor");
        check(Modifier.isFinal(RestGains.class.getModifiers()), "the class is final");
        Set<String> constants = new TreeSet<>();
        for (Field field : RestGains.class.getDeclaredFields()) {
            if (Modifier.isPublic(field.getModifiers())) {
                constants.add(field.getName());
            } else {
                check(Modifier.isPrivate(field.getModifiers()), field + " is private");
            }
        }
        check(constants.equals(Set.of("NONE", "UNKNOWN", "OUTSIDE", "STATE", "FULL")), "the constants are " + constants);
    }

    /** Static fields are constants; of the others there are few. */
    private static void statics(Class<?> type) {
        int fields = 0;
        for (Field field : type.getDeclaredFields()) {
            int is = field.getModifiers();
            check(!Modifier.isStatic(is) || Modifier.isFinal(is), field + " is final");
            check(!Modifier.isStatic(is) || CONSTANTS.contains(field.getType()), field + " is a constant");
            fields += Modifier.isStatic(is) ? 0 : 1;
        }
        check(fields <= 20, type + " has few fields");
    }

    private static void source(String text) {
        String code = text.replaceAll("(?s)/\\*.*?\\*/", "").replaceAll("//[^\n]*", "");
        for (String word : FORBIDDEN) {
            check(!Pattern.compile(word).matcher(code).find(), "no " + word);
        }
        Matcher library = Pattern.compile("\\b[A-Z]\\w*[a-z]\\w*\\.\\w+").matcher(code);
        while (library.find()) {
            check(library.group().matches(LIBRARY), library.group() + " is in the library");
        }
        Matcher method = Pattern.compile("(?m)^( +)[^\\n;=]*\\([^\\n;]*\\) \\{\\n(?:(?!\\1\\})[^\\n]*\\n)*\\1\\}").matcher(code);
        int methods = 0;
        while (method.find()) {
            methods++;
            check(method.group().lines().count() <= 60, "short: " + method.group().lines().findFirst().orElse(""));
        }
        check(methods > 40, "the methods are found, " + methods);
    }
}
