import java.lang.reflect.Field;
import java.lang.reflect.Method;
import java.lang.reflect.Modifier;
import java.nio.file.Files;
import java.nio.file.Path;
import java.util.ArrayList;
import java.util.List;
import java.util.Map;
import java.util.Set;
import java.util.TreeMap;
import java.util.TreeSet;
import java.util.regex.Matcher;
import java.util.regex.Pattern;

/** The rules of LANGUAGE.md that a look at the file or at the class can tell; and the document's face. */
public final class LanguageTests extends Checks {
    private static final Path SOURCE = Path.of("src/main/java/SmashedHours.java");
    private static final Path DOCUMENT = Path.of("../shared/DOC.md");

    private LanguageTests() {
    }

    public static void main(String[] args) throws Exception {
        String source = Files.readString(SOURCE);
        faceIsTheDocuments();
        nestedClasses();
        noWordOutside(withoutComments(source));
        methodsAreShort(withoutComments(source));
        rowsAreMadeInConstructors(withoutComments(source));
        callsAreNotDeep(withoutComments(source));
        end();
    }

    private static String withoutComments(String source) {
        return source.replaceAll("(?s)/\\*.*?\\*/", "").replaceAll("//[^\n]*", "");
    }

    private static void faceIsTheDocuments() throws Exception {
        Set<String> want = new TreeSet<>();
        Matcher face = Pattern.compile("public (int|long) (\\w+)\\(([^)]*)\\);").matcher(Files.readString(DOCUMENT));
        while (face.find()) {
            int parameters = face.group(3).isEmpty() ? 0 : face.group(3).split(",").length;
            want.add(face.group(1) + " " + face.group(2) + " " + parameters);
        }
        Set<String> got = new TreeSet<>();
        Set<String> publicNames = new TreeSet<>();
        for (Method m : SmashedHours.class.getDeclaredMethods()) {
            if (Modifier.isPublic(m.getModifiers())) {
                got.add(m.getReturnType() + " " + m.getName() + " " + m.getParameterCount());
                publicNames.add(m.getName());
            } else {
                must(m + " is private", Modifier.isPrivate(m.getModifiers()));
            }
        }
        must("the face has the document's 29 methods: " + got, got.equals(want) && got.size() == 29);
        must("one public constructor", SmashedHours.class.getConstructors().length == 1);
        must("no other constructor", SmashedHours.class.getDeclaredConstructors().length == 1);
        must("final", Modifier.isFinal(SmashedHours.class.getModifiers()));
        Set<String> constants = new TreeSet<>();
        for (Field f : SmashedHours.class.getDeclaredFields()) {
            if (!Modifier.isPrivate(f.getModifiers())) {
                constants.add(f.getName());
            }
        }
        must("the constants are the document's: " + constants, constants.equals(Set.of("BAD", "STATE", "FULL", "NONE", "NO")));
        for (Class<?> c : everyClass()) {
            for (Method m : c.getDeclaredMethods()) {
                boolean own = c == SmashedHours.class && Modifier.isPublic(m.getModifiers());
                must(c.getName() + "." + m.getName() + " bears no public name", own || !publicNames.contains(m.getName()));
            }
        }
    }

    private static List<Class<?>> everyClass() {
        List<Class<?>> all = new ArrayList<>();
        all.add(SmashedHours.class);
        all.addAll(List.of(SmashedHours.class.getDeclaredClasses()));
        return all;
    }

    private static void nestedClasses() {
        must("twelve classes at most", everyClass().size() <= 12);
        for (Class<?> c : everyClass()) {
            int fields = 0;
            for (Field f : c.getDeclaredFields()) {
                boolean isStatic = Modifier.isStatic(f.getModifiers());
                must(f + " is final, if static", !isStatic || Modifier.isFinal(f.getModifiers()));
                fields += isStatic ? 0 : 1;
            }
            must(c + " has twenty fields at most", fields <= 20);
            must(c + " is static", c == SmashedHours.class || Modifier.isStatic(c.getModifiers()));
            for (Method m : c.getDeclaredMethods()) {
                must(m + " takes seven at most", m.getParameterCount() <= 7);
                must(m + " is not the compiler's", !m.isSynthetic());
            }
        }
    }

    private static void noWordOutside(String code) {
        String[] words = {"throw", "throws", "try", "catch", "finally", "synchronized", "assert", "import", "package",
            "double", "float", "protected", "native", "volatile", "instanceof", "Object", "System", "Random", "Thread",
            "\\w+Exact", "equals", "hashCode", "toString"};
        for (String word : words) {
            must("no " + word, !Pattern.compile("\\b" + word + "\\b").matcher(code).find());
        }
        must("no lambda", !code.contains("->"));
        must("no method reference", !code.contains("::"));
        must("no static block", !Pattern.compile("static\\s*\\{").matcher(code).find());
        must("signs 1 to 127 alone", code.chars().allMatch(c -> c >= 1 && c <= 127));
        must("one type at the top", Pattern.compile("(?m)^\\S.*\\b(class|interface|enum|record)\\b").matcher(code).results().count() == 1);
    }

    private static void methodsAreShort(String code) {
        Map<String, String> bodies = bodiesByName(code);
        must("the methods are found", bodies.size() > 60);
        for (Map.Entry<String, String> e : bodies.entrySet()) {
            must(e.getKey() + " is short", e.getValue().split("\n").length < 60);
        }
    }

    /** The methods of all classes; those of one name are put together, which can only lengthen and deepen. */
    private static Map<String, String> bodiesByName(String code) {
        Map<String, String> bodies = new TreeMap<>();
        Matcher m = Pattern.compile("(?m)^( {4}| {8})(?:[a-zA-Z\\[\\]]+ )+(\\w+)\\([^()]*\\) \\{\n((?s:.*?))^\\1\\}").matcher(code);
        while (m.find()) {
            bodies.merge(m.group(2), m.group(3), String::concat);
        }
        return bodies;
    }

    private static void callsAreNotDeep(String code) {
        Map<String, String> bodies = bodiesByName(code);
        for (Method m : SmashedHours.class.getDeclaredMethods()) {
            if (Modifier.isPublic(m.getModifiers())) {
                int deep = depth(m.getName(), bodies, new TreeSet<>());
                must(m.getName() + " goes eight deep at most, and nothing calls itself: " + deep, deep <= 8);
            }
        }
    }

    private static int depth(String name, Map<String, String> bodies, Set<String> open) {
        if (!open.add(name)) {
            return 1000;
        }
        int deepest = 0;
        Matcher call = Pattern.compile("\\b(\\w+)\\(").matcher(bodies.get(name));
        while (call.find()) {
            if (bodies.containsKey(call.group(1))) {
                deepest = Math.max(deepest, depth(call.group(1), bodies, open));
            }
        }
        open.remove(name);
        return 1 + deepest;
    }

    /** All calls of one run live in one room: no call makes an object. */
    private static void rowsAreMadeInConstructors(String code) {
        for (String line : code.split("\n")) {
            if (line.contains("new ")) {
                boolean field = line.matches(" +(private )?final .* = new .*;");
                boolean ofRow = line.matches(" +(images|rows)\\[i\\] = new Affairs\\(\\);");
                must("made with the object: " + line.trim(), field || ofRow);
            }
        }
    }
}
