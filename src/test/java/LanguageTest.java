import java.io.IOException;
import java.lang.reflect.Constructor;
import java.lang.reflect.Field;
import java.lang.reflect.Method;
import java.lang.reflect.Modifier;
import java.nio.file.Files;
import java.nio.file.Path;
import java.util.Arrays;
import java.util.Map;
import java.util.Set;
import java.util.TreeMap;
import java.util.TreeSet;
import java.util.regex.Matcher;
import java.util.regex.Pattern;

/** The document's face, and those rules of LANGUAGE.md that can be looked up in the class and its file. */
public final class LanguageTest {
    private static final String[] FACE = {
        "int type(int)", "int clear()", "int meadow()", "int flower(int,int)", "int link(int)", "int now(int)",
        "int picks(int)", "int slits(int,int,int)", "int threads(int)", "int pulls()", "int minutes(int)",
        "int water(int)", "int undo()", "int weakest(int)", "int hung()", "int inTime(int)", "int props(int)",
        "int ring()", "int loves()", "int bestSlit(int,int,int)", "int longest(int,int)", "int fewest(int,int)",
        "int row(int,int,int)", "int seen(int,int)", "int forget()", "int wilts()", "int odds(int,int,int)",
        "int rate(int,int)", "int keep(int)", "int back(int)", "int count(int)", "long trace()",
    };
    private static final String[] RULED_OUT = {
        "\\b(throw|throws|try|catch|finally|synchronized|assert|import|package|protected|volatile|transient)\\b",
        "->", "::", "\\+ *\"", "\" *\\+", "\\bstatic *\\{", "Exact\\b", "\\bSystem\\.(?!arraycopy)", "\\bMath\\.random",
        "\\bThread\\b", "\\bObject\\b", "\\bRuntime\\b", "\\bClass\\b", "\\bequals\\b", "\\bhashCode\\b", "\\btoString\\b",
        "while *\\( *true", "for *\\( *; *;",
    };
    private static final int MOST_LINES_OF_A_METHOD = 60;
    private static final int MOST_FIELDS_OF_A_CLASS = 20;
    private static final int DEEPEST_CALL = 8;
    private static final Pattern CALL = Pattern.compile("((?:Math|Integer|System)\\.)?(\\w+)\\(");

    public static void main(String[] args) throws IOException {
        face();
        constants();
        namesOfPrivateMethods();
        classesInside();
        sourceKeepsToTheRules();
        Check.end();
    }

    private static void face() {
        Set<String> is = new TreeSet<>();
        for (Method method : DaisyChain.class.getDeclaredMethods()) {
            if (Modifier.isPublic(method.getModifiers())) {
                String types = Arrays.toString(method.getParameterTypes()).replaceAll("[\\[\\] ]", "");
                is.add(method.getReturnType() + " " + method.getName() + "(" + types + ")");
            } else {
                Check.holds(method + " is private", Modifier.isPrivate(method.getModifiers()));
            }
        }
        Set<String> want = new TreeSet<>(Arrays.asList(FACE));
        Check.holds("the public methods are " + want + " and not " + is, is.equals(want));
        Constructor<?>[] made = DaisyChain.class.getDeclaredConstructors();
        Check.due("constructors", made.length, 1);
        Check.holds("a public constructor without parameters",
            Modifier.isPublic(made[0].getModifiers()) && made[0].getParameterCount() == 0);
        Check.holds("the class is final", Modifier.isFinal(DaisyChain.class.getModifiers()));
    }

    private static void constants() {
        Check.due("BAD", DaisyChain.BAD, -1);
        Check.due("STATE", DaisyChain.STATE, -2);
        Check.due("FULL", DaisyChain.FULL, -3);
        Check.due("NONE", DaisyChain.NONE, -9);
        Check.due("NO", DaisyChain.NO, -1000000);
        int open = 0;
        for (Field field : DaisyChain.class.getDeclaredFields()) {
            if (Modifier.isPublic(field.getModifiers())) {
                open++;
            } else {
                Check.holds(field + " is private", Modifier.isPrivate(field.getModifiers()));
            }
            if (Modifier.isStatic(field.getModifiers())) {
                Check.holds(field + " is final", Modifier.isFinal(field.getModifiers()));
            }
        }
        Check.due("public constants", open, 5);
    }

    private static void namesOfPrivateMethods() {
        Set<String> open = new TreeSet<>();
        for (String method : FACE) {
            open.add(method.substring(method.indexOf(' ') + 1, method.indexOf('(')));
        }
        for (Method method : DaisyChain.class.getDeclaredMethods()) {
            boolean hidden = !Modifier.isPublic(method.getModifiers());
            Check.holds(method + " has a name of its own", !hidden || !open.contains(method.getName()));
        }
        for (Class<?> inside : DaisyChain.class.getDeclaredClasses()) {
            for (Method method : inside.getDeclaredMethods()) {
                Check.holds(method + " has a name of its own", !open.contains(method.getName()));
            }
        }
    }

    private static void classesInside() {
        Class<?>[] inside = DaisyChain.class.getDeclaredClasses();
        Check.holds("at most twelve classes", inside.length + 1 <= 12);
        for (Class<?> one : inside) {
            Check.holds(one + " is static", Modifier.isStatic(one.getModifiers()));
            Check.holds(one + " is not public", !Modifier.isPublic(one.getModifiers()));
            keepsItsSize(one);
        }
        keepsItsSize(DaisyChain.class);
    }

    private static void keepsItsSize(Class<?> one) {
        for (Method method : one.getDeclaredMethods()) {
            Check.holds(method + " takes at most seven", method.getParameterCount() <= 7);
        }
        int fields = 0;
        for (Field field : one.getDeclaredFields()) {
            fields += Modifier.isStatic(field.getModifiers()) ? 0 : 1;
        }
        Check.holds(one + " has some twenty fields at most", fields <= MOST_FIELDS_OF_A_CLASS);
    }

    private static void sourceKeepsToTheRules() throws IOException {
        String source = Files.readString(Path.of("src/main/java/DaisyChain.java"));
        Check.holds("its signs are plain", source.matches("[\n -~]*"));
        String code = source.replaceAll("(?s)/\\*.*?\\*/", "").replaceAll("//[^\n]*", "");
        for (String ruledOut : RULED_OUT) {
            Check.holds("no " + ruledOut, !Pattern.compile(ruledOut).matcher(code).find());
        }
        Map<String, String> bodies = bodiesByName(code);
        for (String method : FACE) {
            String name = method.substring(method.indexOf(' ') + 1, method.indexOf('('));
            Check.holds(name + " is found in the file", bodies.containsKey(name));
            Check.holds(name + " calls at most eight deep", depth(bodies, name, 1) <= DEEPEST_CALL);
        }
    }

    /** Each method's lines, those of the same name together; each of them must be short. */
    private static Map<String, String> bodiesByName(String code) {
        Map<String, String> bodies = new TreeMap<>();
        String[] lines = code.split("\n");
        for (int i = 0; i < lines.length; i++) {
            if (!lines[i].matches(" +(public |private |static |final )*\\w+(\\[\\])? \\w+\\(.*\\) \\{")) {
                continue;
            }
            String end = lines[i].replaceAll("\\S.*", "") + "}";
            StringBuilder body = new StringBuilder();
            int last = i + 1;
            while (last < lines.length && !lines[last].equals(end)) {
                body.append(lines[last]).append('\n');
                last++;
            }
            Check.holds(lines[i].trim() + " is short", last - i <= MOST_LINES_OF_A_METHOD);
            bodies.merge(lines[i].replaceAll(".* (\\w+)\\(.*", "$1"), body.toString(), String::concat);
        }
        return bodies;
    }

    /** How deep calls go, the first one and those of the library counted; more than may be if one comes back to itself. */
    private static int depth(Map<String, String> bodies, String name, int above) {
        int deepest = above;
        Matcher calls = CALL.matcher(bodies.get(name));
        while (calls.find() && deepest <= DEEPEST_CALL) {
            if (calls.group(1) != null) {
                deepest = Math.max(deepest, above + 1);
            } else if (bodies.containsKey(calls.group(2))) {
                deepest = Math.max(deepest, depth(bodies, calls.group(2), above + 1));
            }
        }
        return deepest;
    }
}
