import java.io.IOException;
import java.lang.reflect.Constructor;
import java.lang.reflect.Field;
import java.lang.reflect.Method;
import java.lang.reflect.Modifier;
import java.nio.file.Files;
import java.nio.file.Path;
import java.util.ArrayList;
import java.util.Arrays;
import java.util.HashMap;
import java.util.List;
import java.util.Map;
import java.util.Set;
import java.util.TreeSet;
import java.util.regex.Matcher;
import java.util.regex.Pattern;

/** The public face of the document, and what of LANGUAGE.md can be seen from outside or in the source. */
public final class FaceAndRules {
    private static final Set<String> FACE = new TreeSet<>(Arrays.asList(
        "int state(int)", "boolean ring(int)", "boolean farm(int,int,int)", "boolean border(int,int,int)",
        "boolean set(int,int)", "int worth(int)", "int feed(int,int,int,int,int)", "boolean end(int)", "int text(int)",
        "int fault(int)", "int of(int,int)", "int stake(int,int)", "int nights(int)", "int value(int,int)",
        "int reply(int,int)", "int rests(int)", "int still()", "int walls(int,int)", "int pact(int,int)",
        "long two(int,int,int,int)", "boolean was(int,int)", "int judged()", "int feet(int)", "int thought(int,int)",
        "boolean image(boolean)", "int look(int)"));
    private static final String[] FORBIDDEN = {"\\bthrows?\\b", "\\btry\\b", "\\bcatch\\b", "\\bfinally\\b",
        "\\bsynchronized\\b", "\\bassert\\b", "->", "::", "\\bvar\\b", "\\bequals\\b", "\\bhashCode\\b",
        "\\btoString\\b", "\\bstatic\\s*\\{", "\\bdouble\\b", "\\bfloat\\b", "\\bvolatile\\b", "\\bnative\\b", "Exact\\b",
        "\\bSystem\\.(?!arraycopy\\b)", "\\bpackage\\b", "\\bThread\\b", "\\bObject\\b", "\\bgoto\\b", "@", "\\bnew Random\\b"};
    private static int wrong = 0;

    private static void so(boolean holds, String what) {
        if (!holds) {
            wrong++;
            System.out.println("not so: " + what);
        }
    }

    private static String head(Method m) {
        List<String> types = new ArrayList<>();
        for (Class<?> type : m.getParameterTypes()) {
            types.add(type.getSimpleName());
        }
        return m.getReturnType().getSimpleName() + " " + m.getName() + "(" + String.join(",", types) + ")";
    }

    private static void face() throws ReflectiveOperationException {
        Class<?> c = FootANight.class;
        so(Modifier.isPublic(c.getModifiers()) && Modifier.isFinal(c.getModifiers()), "the class is public and final");
        so(c.getPackageName().isEmpty() && c.getSuperclass() == Object.class, "no package, nothing above it");
        Set<String> found = new TreeSet<>();
        for (Method m : c.getDeclaredMethods()) {
            if (Modifier.isPublic(m.getModifiers())) {
                so(!Modifier.isStatic(m.getModifiers()), m + " is of an object");
                found.add(head(m));
            } else {
                so(Modifier.isPrivate(m.getModifiers()), m + " is private");
            }
        }
        so(found.equals(FACE), "the methods are the document's: " + found);
        Constructor<?>[] made = c.getDeclaredConstructors();
        so(made.length == 1 && Modifier.isPublic(made[0].getModifiers()) && made[0].getParameterCount() == 0,
            "one constructor, public, without parameters");
        for (Field f : c.getDeclaredFields()) {
            boolean isConstant = f.getName().equals("NONE");
            so(isConstant == Modifier.isPublic(f.getModifiers()), f + " is public if it is the constant");
            so(isConstant || Modifier.isPrivate(f.getModifiers()), f + " is private if it isn't");
        }
        Field none = c.getField("NONE");
        so(none.getType() == int.class && none.getInt(null) == -1 && Modifier.isFinal(none.getModifiers()), "NONE");
        inside(c);
    }

    private static void inside(Class<?> c) {
        List<Class<?>> all = new ArrayList<>(List.of(c));
        all.addAll(List.of(c.getDeclaredClasses()));
        so(all.size() <= 12, "some twelve classes");
        Set<String> names = new TreeSet<>();
        for (String head : FACE) {
            names.add(head.substring(head.indexOf(' ') + 1, head.indexOf('(')));
        }
        for (Class<?> each : all) {
            so(each == c || Modifier.isStatic(each.getModifiers()), each + " is static");
            int fields = 0;
            for (Field f : each.getDeclaredFields()) {
                boolean isStatic = Modifier.isStatic(f.getModifiers());
                so(!isStatic || Modifier.isFinal(f.getModifiers()), f + " is final if static");
                fields += isStatic ? 0 : 1;
            }
            so(fields <= 20, each + " has some twenty fields: " + fields);
            for (Method m : each.getDeclaredMethods()) {
                so(m.getParameterCount() <= 7, m + " takes at most seven");
                so(each == c || !names.contains(m.getName()), m + " bears no public name");
                so(each != c || !Modifier.isPrivate(m.getModifiers()) || !names.contains(m.getName()), m + " bears none");
            }
        }
    }

    /** Comments and what stands in quotes are no code. */
    private static String bare(String source) {
        String s = source.replaceAll("(?s)/\\*.*?\\*/", " ").replaceAll("//[^\n]*", " ");
        return s.replaceAll("'(\\\\.|[^'\\\\])'", "' '").replaceAll("\"(\\\\.|[^\"\\\\])*\"", "\" \"");
    }

    private static void source() throws IOException {
        String source = Files.readString(Path.of("src/main/java/FootANight.java"));
        so(source.chars().allMatch(sign -> sign == '\n' || sign >= 32 && sign < 127), "plain signs alone");
        String code = bare(source);
        for (String word : FORBIDDEN) {
            Matcher found = Pattern.compile(word).matcher(code);
            so(!found.find(), "LANGUAGE.md leaves out " + word);
        }
        Matcher imports = Pattern.compile("import ([^;]+);").matcher(code);
        while (imports.find()) {
            so(imports.group(1).equals("java.util.Arrays"), "import of " + imports.group(1));
        }
        so(!Pattern.compile("\"\\s*\\+|\\+\\s*\"").matcher(code).find(), "texts are not joined by +");
        so(!Pattern.compile("while \\(true\\)|for \\(;;").matcher(code).find(), "each loop has an end");
        lengths(code);
        depths(code);
    }

    private static Map<String, String> bodies(String code) {
        Map<String, String> bodies = new HashMap<>();
        Matcher head = Pattern.compile("(?m)^ {4,8}(?:[a-zA-Z\\[\\]]+ )*([a-zA-Z]+)\\([^)]*\\) \\{$").matcher(code);
        while (head.find()) {
            int open = 1;
            int at = head.end();
            while (open > 0 && at < code.length()) {
                open += code.charAt(at) == '{' ? 1 : code.charAt(at) == '}' ? -1 : 0;
                at++;
            }
            bodies.put(head.group(1), code.substring(head.end(), at));
        }
        return bodies;
    }

    private static void lengths(String code) {
        Map<String, String> bodies = bodies(code);
        so(bodies.size() > 60, "all methods are found: " + bodies.size());
        for (Map.Entry<String, String> each : bodies.entrySet()) {
            long lines = each.getValue().lines().count();
            so(lines <= 60, each.getKey() + " is short: " + lines);
        }
    }

    private static void depths(String code) {
        Map<String, String> bodies = bodies(code);
        for (String name : bodies.keySet()) {
            List<String> deepest = deepest(name, bodies, List.of());
            so(deepest.size() <= 8, "calls at most eight deep, none again: " + deepest);
        }
    }

    /** By names alone, with the library's calls: rather too deep than not deep enough. */
    private static List<String> deepest(String name, Map<String, String> bodies, List<String> above) {
        List<String> here = new ArrayList<>(above);
        here.add(name);
        if (above.contains(name) || above.size() > 12) {
            return new ArrayList<>(java.util.Collections.nCopies(99, name));
        }
        List<String> most = here;
        Matcher call = Pattern.compile("([a-zA-Z]+)\\(").matcher(bodies.getOrDefault(name, ""));
        while (call.find()) {
            if (bodies.containsKey(call.group(1)) || "min max abs bitCount charAt fill arraycopy floorDiv length"
                .contains(call.group(1))) {
                List<String> found = deepest(call.group(1), bodies, here);
                most = found.size() > most.size() ? found : most;
            }
        }
        return most;
    }

    public static void main(String[] args) throws Exception {
        face();
        source();
        System.out.println(wrong == 0 ? "the face and the rules are kept" : wrong + " are not kept");
        if (wrong != 0) {
            System.exit(1);
        }
    }
}
