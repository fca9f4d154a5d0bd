import java.lang.reflect.InvocationTargetException;
import java.lang.reflect.Method;
import java.nio.file.Files;
import java.nio.file.Path;
import java.util.ArrayList;
import java.util.BitSet;
import java.util.Comparator;
import java.util.List;
import java.util.Map;
import java.util.TreeMap;
import java.util.regex.Matcher;
import java.util.regex.Pattern;

/**
 * Every boundary case that a sentence of the document names, as a test of its
 * own: the class says which promise (or which of the Terms), the method which
 * case, and its @Says the sentence. That each sentence is the document's, and
 * that no boundary that the document names goes without a test, is tested too.
 */
public final class BoundaryTests extends Checks {
    private static final Path DOCUMENT = Path.of("../shared/DOC.md");
    private static final String TERMS = "Terms";
    private static final List<Class<?>> FILES = List.of(TextBoundaries.class, HouseBoundaries.class,
        DeedBoundaries.class, NightBoundaries.class, RestBoundaries.class);

    /** What a sentence has that names a boundary: an answer of refusal or of none, a bound, an end. */
    private static final Pattern BOUNDARY = Pattern.compile("\\b(BAD|STATE|FULL|NONE|NO)\\b|\\d+ \\.\\. \\d+|\\d+ to \\d+"
        + "|at (most|least|first)|\\b([Nn]one|[Nn]obody|[Nn]othing|lost|empty|early|above 99|beyond|ahead of others|already"
        + "|seventh|fifth|second time|again|lowest|least|fewest|nearest|are gone|in least terms|lacking|himself may be)\\b");

    private final Map<String, String> sections = new TreeMap<>();
    private final Map<String, BitSet> tested = new TreeMap<>();
    private int cases = 0;

    private BoundaryTests(String document) {
        for (String part : document.split("(?m)^## ")) {
            String[] headAndBody = part.split("\n", 2);
            String name = headAndBody[0].replaceFirst("^(Promise \\d+):.*", "$1");
            sections.put(name, plain(headAndBody.length > 1 ? headAndBody[1] : ""));
            tested.put(name, new BitSet());
        }
    }

    public static void main(String[] args) throws Exception {
        BoundaryTests tests = new BoundaryTests(Files.readString(DOCUMENT));
        for (Class<?> file : FILES) {
            tests.runFile(file);
        }
        title = "";
        tests.everyPromiseHasCases();
        tests.everyBoundaryHasACase();
        System.out.print(tests.cases + " cases, ");
        end();
    }

    private static String plain(String text) {
        return text.replace("```text", "").replace("```", "").replaceAll("\\s+", " ");
    }

    private void runFile(Class<?> file) throws Exception {
        List<Class<?>> groups = new ArrayList<>(List.of(file.getDeclaredClasses()));
        groups.sort(Comparator.comparing(Class::getSimpleName));
        for (Class<?> group : groups) {
            List<Method> methods = new ArrayList<>(List.of(group.getDeclaredMethods()));
            methods.sort(Comparator.comparing(Method::getName));
            for (Method method : methods) {
                if (method.isAnnotationPresent(Says.class)) {
                    runCase(group, method);
                }
            }
        }
    }

    private void runCase(Class<?> group, Method method) throws IllegalAccessException {
        cases++;
        title = group.getSimpleName() + "." + method.getName() + ": ";
        for (String words : method.getAnnotation(Says.class).value()) {
            must("the document says: " + words, mark(sectionOf(group), words) || mark(TERMS, words));
        }
        int ahead = checks;
        method.setAccessible(true);
        try {
            method.invoke(null);
        } catch (InvocationTargetException e) {
            must("it throws nothing, but " + e.getCause(), false);
        }
        must("it checks something", checks > ahead);
    }

    private static String sectionOf(Class<?> group) {
        Matcher promise = Pattern.compile("Promise0?(\\d+)\\w*").matcher(group.getSimpleName());
        if (promise.matches()) {
            return "Promise " + promise.group(1);
        }
        switch (group.getSimpleName()) {
            case "WhatItIs":
                return "What it is";
            case "ThePublicFace":
                return "The public face";
            default:
                return TERMS;
        }
    }

    private boolean mark(String section, String words) {
        String text = sections.get(section);
        boolean found = false;
        for (int at = text.indexOf(words); at >= 0; at = text.indexOf(words, at + 1)) {
            tested.get(section).set(at, at + words.length());
            found = true;
        }
        return found;
    }

    private void everyPromiseHasCases() {
        for (int n = 1; n <= 30; n++) {
            must("promise " + n + " has cases", !tested.get("Promise " + n).isEmpty());
        }
    }

    private void everyBoundaryHasACase() {
        for (String section : sections.keySet()) {
            if (section.equals(TERMS) || section.startsWith("Promise ")) {
                everyBoundaryOf(section);
            }
        }
    }

    private void everyBoundaryOf(String section) {
        Matcher boundary = BOUNDARY.matcher(sections.get(section));
        while (boundary.find()) {
            String around = sections.get(section).substring(Math.max(0, boundary.start() - 40), boundary.end());
            must("a case of \"" + section + "\" says: .. " + around, tested.get(section).get(boundary.start()));
        }
    }
}
