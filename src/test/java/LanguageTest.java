import java.io.IOException;
import java.lang.reflect.Constructor;
import java.lang.reflect.Field;
import java.lang.reflect.Method;
import java.lang.reflect.Modifier;
import java.nio.file.Files;
import java.nio.file.Path;
import java.util.HashSet;
import java.util.List;
import java.util.Set;
import java.util.TreeSet;
import java.util.regex.Matcher;
import java.util.regex.Pattern;

/** What of LANGUAGE.md can be seen in the file and in the classes made of it. */
public final class LanguageTest {
    private static final List<String> FACE = List.of(
        "int letter(int)", "int blank()", "int fault()", "int river()", "int person(int,int)", "int as(int,int)",
        "int matter(int,int)", "int date(int,int)", "int say(int)", "int day()", "int cross(int)", "int open(int,int)",
        "int change(int,int,int)", "int best(int,int)", "int live(int)", "int fog(int,int,int,int)",
        "int see(int,int,boolean)", "int forget()", "int years(int,int,int)", "int image()", "int restore()",
        "int count(int)", "long digest()");
    /** What the class takes of the library by a class's name: all of it stands in rule 4. */
    private static final Set<String> LIBRARY = Set.of("Integer.bitCount", "Math.min", "Math.max", "System.arraycopy");
    private static final List<String> CONSTANTS = List.of("NONE", "UNKNOWN", "OUTSIDE", "STATE", "FULL");

    private static int wrong;

    private static void rule(int number, boolean kept, String what) {
        if (!kept) {
            wrong++;
            System.out.println("rule " + number + ": " + what);
        }
    }

    private static String signature(Method m) {
        StringBuilder text = new StringBuilder(m.getReturnType() + " " + m.getName() + "(");
        for (int i = 0; i < m.getParameterCount(); i++) {
            text.append(i == 0 ? "" : ",").append(m.getParameterTypes()[i]);
        }
        return text.append(")").toString();
    }

    private static void checkFace() {
        Set<String> found = new TreeSet<>();
        for (Method m : OddBank.class.getDeclaredMethods()) {
            if (Modifier.isPublic(m.getModifiers())) {
                found.add(signature(m));
            } else {
                rule(1, Modifier.isPrivate(m.getModifiers()), m.getName() + " is not private");
            }
        }
        rule(1, found.equals(new TreeSet<>(FACE)), "the face is " + found);
        Set<String> constants = new HashSet<>();
        for (Field f : OddBank.class.getDeclaredFields()) {
            if (Modifier.isPublic(f.getModifiers())) {
                constants.add(f.getName());
            } else {
                rule(1, Modifier.isPrivate(f.getModifiers()), f.getName() + " is not private");
            }
        }
        rule(1, constants.equals(new HashSet<>(CONSTANTS)), "the constants are " + constants);
        rule(1, Modifier.isFinal(OddBank.class.getModifiers()), "the class is not final");
        Constructor<?>[] made = OddBank.class.getDeclaredConstructors();
        rule(1, made.length == 1 && Modifier.isPublic(made[0].getModifiers()), "constructors");
    }

    private static void checkClasses() {
        Class<?>[] inside = OddBank.class.getDeclaredClasses();
        rule(11, inside.length <= 11, "classes");
        for (Class<?> c : inside) {
            rule(1, Modifier.isStatic(c.getModifiers()), c + " is not static");
            rule(1, !Modifier.isPublic(c.getModifiers()), c + " is public");
            checkMembers(c);
        }
        checkMembers(OddBank.class);
    }

    private static void checkMembers(Class<?> c) {
        Set<String> faceNames = new HashSet<>();
        for (Method m : OddBank.class.getDeclaredMethods()) {
            if (Modifier.isPublic(m.getModifiers())) {
                faceNames.add(m.getName());
            }
        }
        for (Method m : c.getDeclaredMethods()) {
            rule(11, m.getParameterCount() <= 7, m + " has many parameters");
            rule(1, c == OddBank.class && Modifier.isPublic(m.getModifiers()) || !faceNames.contains(m.getName()),
                m + " bears a public name");
        }
        int fields = 0;
        for (Field f : c.getDeclaredFields()) {
            boolean isStatic = Modifier.isStatic(f.getModifiers());
            fields += isStatic ? 0 : 1;
            rule(5, !isStatic || Modifier.isFinal(f.getModifiers()), f + " is not final");
        }
        rule(11, fields <= 20, c + " has many fields");
    }

    private static String withoutComments(String source) {
        return source.replaceAll("(?s)/\\*.*?\\*/", "").replaceAll("//[^\n]*", "").replaceAll("\"[^\"]*\"", "\"\"");
    }

    /** The library by its classes' names, fields such as Integer.MAX_VALUE too, and what is called on a String. */
    private static void checkLibrary(String code) {
        Set<String> own = new HashSet<>();
        for (Class<?> c : OddBank.class.getDeclaredClasses()) {
            own.add(c.getSimpleName());
        }
        Matcher m = Pattern.compile("\\b([A-Z]\\w*)\\s*\\.\\s*(\\w+)").matcher(code);
        while (m.find()) {
            boolean isConstant = m.group(1).matches("[A-Z_]+");
            boolean known = own.contains(m.group(1)) || LIBRARY.contains(m.group(1) + "." + m.group(2))
                || isConstant && List.of("length", "indexOf").contains(m.group(2));
            rule(4, known, m.group() + " is not in the list");
        }
    }

    /** Rows are made with the object and used again: new stands in its constructor and at fields alone. */
    private static void checkMade(String code) {
        String rest = code.replaceAll("(?s)public OddBank\\(\\) \\{.*?\\}", "")
            .replaceAll("(?m)^ +(private )?final [\\w\\[\\]]+ \\w+ = new [\\w\\[\\]().]+;$", "");
        rule(12, !Pattern.compile("\\bnew\\b|\\bclone\\b|\\bcopyOf").matcher(rest).find(), "a call makes an object");
    }

    private static void checkText(String source) {
        String code = withoutComments(source);
        checkLibrary(code);
        checkMade(code);
        for (String word : List.of("throw", "throws", "try", "catch", "finally", "synchronized", "assert", "package",
            "import", "static \\{", "System\\.(?!arraycopy)\\w+", "Random", "Thread", "native", "hashCode", "toString",
            "equals", "double", "float", "protected", "instanceof", "while")) {
            rule(6, !Pattern.compile("\\b" + word).matcher(code).find(), "the word " + word);
        }
        rule(2, !code.contains("->") && !code.contains("::"), "a lambda or a method reference");
        rule(10, !code.contains("\" +") && !code.contains("+ \""), "texts joined by +");
        for (char c : source.toCharArray()) {
            rule(4, c == '\n' || c >= 32 && c < 127, "the sign " + (int) c);
        }
    }

    private static void checkLengths(String source) {
        Matcher m = Pattern.compile("(?m)^( +)[\\w \\[\\]]+ (\\w+)\\([^;{}]*\\) \\{\n(?s:(.*?))^\\1\\}").matcher(source);
        int methods = 0;
        while (m.find()) {
            methods++;
            rule(11, m.group(3).split("\n").length <= 60, m.group(2) + " is long");
        }
        rule(11, methods > 40, "only " + methods + " methods found");
    }

    public static void main(String[] args) throws IOException {
        String source = Files.readString(Path.of("src/main/java/OddBank.java"));
        checkFace();
        checkClasses();
        checkText(source);
        checkLengths(source);
        System.out.println(wrong == 0 ? "the rules are kept" : wrong + " breaches");
        if (wrong != 0) {
            System.exit(1);
        }
    }
}
