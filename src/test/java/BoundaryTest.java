import java.io.IOException;
import java.lang.reflect.InvocationTargetException;
import java.lang.reflect.Method;
import java.nio.file.Files;
import java.nio.file.Path;
import java.util.Arrays;
import java.util.Comparator;
import java.util.Locale;
import java.util.Set;
import java.util.TreeSet;
import java.util.regex.Matcher;
import java.util.regex.Pattern;

/**
 * Runs the tests of boundary cases: for each sentence of the document that names one a method of its own, named
 * by its promise's number (p04_..), with the sentence's words (@Says), which must stand in the document there.
 */
public final class BoundaryTest {
    private static final int PROMISES = 41;
    private static final Class<?>[] PARTS = {BoundsOfTexts.class, BoundsOfMeanings.class, BoundsOfTrees.class,
        BoundsOfLines.class, BoundsOfStore.class, BoundsOfBack.class};
    private static final Pattern NAME = Pattern.compile("p(\\d\\d)_[a-zA-Z0-9]+");

    private static final Set<String> names = new TreeSet<>();
    private static int faults = 0;

    private static void fault(String what) {
        faults++;
        System.out.println(what);
    }

    private static String plain(String s) {
        return s.replace("`", "").replaceAll("\\s+", " ");
    }

    /** The part of the document under a heading that begins so. */
    private static String section(String doc, String heading) {
        Matcher m = Pattern.compile("(?ms)^## " + Pattern.quote(heading) + "(.*?)(?=^## |\\z)").matcher(doc);
        return m.find() ? plain(m.group(1)) : "";
    }

    private static void runAll(String doc) throws IllegalAccessException, InvocationTargetException {
        String general = section(doc, "What it is") + section(doc, "The public face") + section(doc, "Terms");
        for (Class<?> part : PARTS) {
            Method[] methods = part.getDeclaredMethods();
            Arrays.sort(methods, Comparator.comparing(Method::getName));
            for (Method method : methods) {
                Bounds.Says says = method.getAnnotation(Bounds.Says.class);
                if (says == null) continue;
                Matcher name = NAME.matcher(method.getName());
                if (!name.matches()) {
                    fault(method.getName() + " isn't named by its promise's number");
                    continue;
                }
                int promise = Integer.parseInt(name.group(1));
                String own = section(doc, "Promise " + promise + ":");
                String words = plain(says.value());
                if (!doc.isEmpty() && !own.contains(words) && !general.contains(words)) {
                    fault(method.getName() + ": the document doesn't say there: " + words);
                }
                names.add(method.getName().toLowerCase(Locale.ROOT));
                Bounds.test = method.getName();
                int asked = Bounds.asked;
                method.invoke(null);
                if (Bounds.asked == asked) fault(method.getName() + " asks nothing");
            }
        }
    }

    private static boolean hasTest(int promise, String part) {
        String ahead = String.format("p%02d_", promise);
        for (String name : names) {
            if (name.startsWith(ahead) && name.contains(part)) return true;
        }
        return false;
    }

    /** Each promise has tests, and one for each sort of answer at a boundary that it names. */
    private static void lookForGaps(String doc) {
        for (int promise = 1; promise <= PROMISES; promise++) {
            if (!hasTest(promise, "")) fault("promise " + promise + " has no test");
            String own = section(doc, "Promise " + promise + ":");
            for (String part : new String[] {"BAD", "FULL", "STATE", "NONE"}) {
                if (own.contains(part) && !hasTest(promise, part.toLowerCase(Locale.ROOT))) {
                    fault("promise " + promise + " names " + part + ", but no test of it does");
                }
            }
        }
    }

    public static void main(String[] args) throws Exception {
        Path path = Path.of("../shared/DOC.md");
        String doc = "";
        if (Files.isReadable(path)) {
            doc = readAll(path);
        } else {
            System.out.println("no document at " + path + ": the words of the tests aren't looked up");
        }
        runAll(doc);
        lookForGaps(doc);
        System.out.println("BoundaryTest: " + names.size() + " tests, " + Bounds.asked + " answers, "
                + (Bounds.wrong + faults) + " not as due");
        if (Bounds.wrong + faults != 0) System.exit(1);
    }

    private static String readAll(Path path) throws IOException {
        return Files.readString(path);
    }
}
