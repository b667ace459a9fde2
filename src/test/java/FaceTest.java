import java.io.IOException;
import java.lang.reflect.Field;
import java.lang.reflect.Member;
import java.lang.reflect.Method;
import java.lang.reflect.Modifier;
import java.nio.file.Files;
import java.nio.file.Path;
import java.util.ArrayList;
import java.util.Arrays;
import java.util.HashSet;
import java.util.List;
import java.util.Set;
import java.util.TreeSet;
import java.util.regex.Matcher;
import java.util.regex.Pattern;

/** The public face of the document, and the rules of LANGUAGE.md that can be seen from outside or by words alone. */
public final class FaceTest {
    private static final String[] METHODS = {
        "int builds(int)", "int test(int)", "int is(int,int)", "int row(int,int)", "int lay(int,int,int,int)",
        "int at(int,int,int)", "int tear(int,int)", "int copy(int,int,int,int,int,int)", "int rank(int,int,int)",
        "int mean(int,int)", "int price(int)", "int cuts(int,int)", "int cut(int,int,int)", "int middle(int,int,int)",
        "int size(int,int,int)", "int reach(int)", "int own(int,int,int)", "int undone(int,int,int)",
        "int odds(int,int,int)", "int cry(int,int,int)", "int cried(int)", "int halve(int,int,int)", "int asks()",
        "int rerun(boolean)", "int found()", "int reruns()", "long upper()", "long lower()", "long asked()",
        "int count(int)", "int finding()", "int findings(int)", "long digest()"};
    private static final String[] FORBIDDEN = {
        "\\bthrow\\b", "\\btry\\b", "\\bcatch\\b", "\\bsynchronized\\b", "\\bassert\\b", "\\bpackage\\b", "\\bprotected\\b",
        "->", "::", "\\bSystem\\.(?!arraycopy)", "\\bMath\\.\\w*Exact\\b", "\\bRandom\\b", "\\bThread\\b",
        "\\bequals\\b", "\\bhashCode\\b", "\\btoString\\b", "\\bstatic\\s*\\{", "\\bnew\\s+\\w+\\s*\\([^)]*\\)\\s*\\{", "@"};

    public static void main(String[] args) throws IOException {
        face();
        constants();
        innerClasses();
        sections();
        words();
        Check.end();
    }

    private static String signature(Method m) {
        List<String> types = new ArrayList<>();
        for (Class<?> t : m.getParameterTypes()) {
            types.add(t.getSimpleName());
        }
        return m.getReturnType().getSimpleName() + " " + m.getName() + "(" + String.join(",", types) + ")";
    }

    private static void face() {
        Class<?> c = SlowWatch.class;
        Check.isTrue("the class is public and final", Modifier.isPublic(c.getModifiers()) && Modifier.isFinal(c.getModifiers()));
        Check.isTrue("it has one constructor, public and without parameters", c.getDeclaredConstructors().length == 1
            && c.getConstructors().length == 1 && c.getConstructors()[0].getParameterCount() == 0);
        Set<String> face = new TreeSet<>();
        Set<String> names = new HashSet<>();
        for (Method m : c.getDeclaredMethods()) {
            if (Modifier.isPublic(m.getModifiers()) && !Modifier.isStatic(m.getModifiers())) {
                face.add(signature(m));
                names.add(m.getName());
            } else {
                Check.isTrue(m + " is private", Modifier.isPrivate(m.getModifiers()));
            }
        }
        Check.isTrue("the public methods are those of the document: " + face, face.equals(new TreeSet<>(Arrays.asList(METHODS))));
        List<Method> others = new ArrayList<>();
        for (Class<?> inner : c.getDeclaredClasses()) {
            others.addAll(Arrays.asList(inner.getDeclaredMethods()));
        }
        for (Method m : c.getDeclaredMethods()) {
            if (!Modifier.isPublic(m.getModifiers())) {
                others.add(m);
            }
        }
        for (Method m : others) {
            Check.isTrue(m + " bears no public method's name", !names.contains(m.getName()));
            Check.isTrue(m + " takes at most seven", m.getParameterCount() <= 7);
        }
    }

    private static void constants() {
        Check.due(1, "BAD", SlowWatch.BAD, -1);
        Check.due(1, "FULL", SlowWatch.FULL, -2);
        Check.due(1, "FINDING", SlowWatch.FINDING, -3);
        Check.due(1, "STATE", SlowWatch.STATE, -4);
        Check.due(1, "NONE", SlowWatch.NONE, -9);
        Set<String> constants = new TreeSet<>();
        for (Field f : SlowWatch.class.getDeclaredFields()) {
            if (Modifier.isPublic(f.getModifiers())) {
                constants.add(f.getName());
                Check.isTrue(f + " is static, final, and an int",
                    Modifier.isStatic(f.getModifiers()) && Modifier.isFinal(f.getModifiers()) && f.getType() == int.class);
            } else {
                Check.isTrue(f + " is private", Modifier.isPrivate(f.getModifiers()));
            }
        }
        Check.isTrue("the constants are those of the document: " + constants,
            constants.equals(new TreeSet<>(List.of("BAD", "FULL", "FINDING", "STATE", "NONE"))));
    }

    private static void innerClasses() {
        Class<?>[] inner = SlowWatch.class.getDeclaredClasses();
        Check.isTrue("at most twelve classes", inner.length < 12);
        List<Class<?>> all = new ArrayList<>(Arrays.asList(inner));
        all.add(SlowWatch.class);
        for (Class<?> c : all) {
            Check.isTrue(c + " is static, and not public", c == SlowWatch.class
                || Modifier.isStatic(c.getModifiers()) && !Modifier.isPublic(c.getModifiers()));
            int fields = 0;
            for (Field f : c.getDeclaredFields()) {
                boolean isStatic = Modifier.isStatic(f.getModifiers());
                fields += isStatic ? 0 : 1;
                Check.isTrue(f + " is final if static", !isStatic || Modifier.isFinal(((Member) f).getModifiers()));
            }
            Check.isTrue(c + " has at most twenty fields", fields <= 20);
        }
    }

    /** "Ahead of the calls .. the interface says": what it says stands ahead of the same calls in the class. */
    private static void sections() throws IOException {
        String[] titles = {"1 builds, tests, rows", "2 cuts", "3 what steps are", "4 halving", "5 what is told"};
        String[] calls = {"builds test is row lay at tear copy rank mean", "price cuts cut middle size",
            "reach own undone odds cry cried", "halve asks rerun found reruns",
            "upper lower asked count finding findings digest"};
        String source = Files.readString(Path.of("src/main/java/SlowWatch.java"));
        String[] parts = source.split("// ---- ");
        Check.isTrue("there are five sections, and the help for them", parts.length >= 6);
        for (int k = 0; k < titles.length && k + 1 < parts.length; k++) {
            Check.isTrue("section " + titles[k], parts[k + 1].startsWith(titles[k] + "\n"));
            List<String> names = new ArrayList<>();
            Matcher m = Pattern.compile("\n    public \\w+ (\\w+)\\(").matcher(parts[k + 1]);
            while (m.find()) {
                names.add(m.group(1));
            }
            Check.isTrue("the calls of section " + titles[k] + ": " + names, String.join(" ", names).equals(calls[k]));
        }
    }

    private static void words() throws IOException {
        String source = Files.readString(Path.of("src/main/java/SlowWatch.java"));
        for (char sign : source.toCharArray()) {
            if (sign < 1 || sign > 127) {
                Check.isTrue("the sign " + (int) sign + " is 1 to 127", false);
            }
        }
        String code = source.replaceAll("(?s)/\\*.*?\\*/", "").replaceAll("//[^\n]*", "");
        for (String word : FORBIDDEN) {
            Matcher m = Pattern.compile(word).matcher(code);
            Check.isTrue(word + " does not stand in the code", !m.find());
        }
        Matcher imports = Pattern.compile("import\\s+([\\w.*]+)").matcher(code);
        while (imports.find()) {
            Check.isTrue("the import " + imports.group(1), List.of("java.util.Arrays", "java.util.ArrayList", "java.util.List")
                .contains(imports.group(1)));
        }
        longestMethod(code);
    }

    /** A method begins with its type, and ends with a bracket as far in. */
    private static void longestMethod(String code) {
        String[] lines = code.split("\n");
        Pattern begin = Pattern.compile("( {4}| {8})(?=\\S)(?!if|for|while|switch|return|else)[\\w\\[\\] ]+\\(.*\\) \\{");
        int methods = 0;
        for (int k = 0; k < lines.length; k++) {
            Matcher m = begin.matcher(lines[k]);
            if (!m.matches()) {
                continue;
            }
            int end = k + 1;
            while (!lines[end].equals(m.group(1) + "}")) {
                end++;
            }
            methods++;
            Check.isTrue("short: " + lines[k].trim(), end - k < 60);
        }
        Check.isTrue("methods were seen: " + methods, methods > METHODS.length);
    }
}
