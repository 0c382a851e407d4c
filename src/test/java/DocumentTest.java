import java.io.IOException;
import java.lang.reflect.Constructor;
import java.lang.reflect.Field;
import java.lang.reflect.InvocationTargetException;
import java.lang.reflect.Method;
import java.lang.reflect.Modifier;
import java.nio.file.Files;
import java.nio.file.Path;
import java.util.ArrayList;
import java.util.Arrays;
import java.util.Comparator;
import java.util.LinkedHashMap;
import java.util.List;
import java.util.Map;
import java.util.StringJoiner;
import java.util.regex.Matcher;
import java.util.regex.Pattern;

/**
 * The document from its first line to the end of promise 41: the face as it is written there, the headings of
 * the interface, and for each sentence a test that bears it whole. A sentence that no test bears is told.
 */
public final class DocumentTest {
    private static final Path DOCUMENT = Path.of("../shared/DOC.md");
    private static final Path SOURCE = Path.of("src/main/java/DecoderForge.java");
    private static final Class<?>[] PARTS = {SentencesOfTerms.class, SentencesOfPromises.class};
    private static final Pattern PROMISE = Pattern.compile("Promise (\\d+): (.*)");
    private static final Pattern TEST = Pattern.compile("(t\\d|p\\d\\d)_[a-zA-Z0-9]+");
    private static final Pattern SIGNATURE = Pattern.compile("^ ?((?:int |long )?\\w+\\([^)]*\\)): ");
    private static final Pattern GROUP = Pattern.compile("Ahead of the calls ([^.]*?) the interface says: ---- ([^.]*)\\.");

    /** Each section's heading, and what it says in one line; the order is the document's. */
    private static final Map<String, String> sections = new LinkedHashMap<>();
    private static final Map<String, boolean[]> borne = new LinkedHashMap<>();
    private static int looks = 0;
    private static int faults = 0;
    private static int tests = 0;

    private static void check(boolean good, String what) {
        looks++;
        if (!good) {
            faults++;
            System.out.println("DocumentTest: " + what);
        }
    }

    private static String plain(String s) {
        return s.replace("```java", " ").replace("```text", " ").replace("`", "").replaceAll("\\s+", " ");
    }

    private static void readSections() throws IOException {
        String heading = "";
        StringBuilder body = new StringBuilder();
        for (String row : Files.readString(DOCUMENT).split("\n")) {
            if (row.startsWith("## ")) {
                sections.put(heading, plain(body.toString()));
                heading = row.substring(3);
                body.setLength(0);
            } else {
                body.append(row).append('\n');
            }
        }
        sections.put(heading, plain(body.toString()));
        for (Map.Entry<String, String> e : sections.entrySet()) borne.put(e.getKey(), new boolean[e.getValue().length()]);
    }

    // ---- the face

    /** The face as it is, said as the document says it, without the names of parameters. */
    private static List<String> faceThatIs() {
        List<String> rows = new ArrayList<>();
        for (Field f : DecoderForge.class.getDeclaredFields()) {
            if (!Modifier.isPrivate(f.getModifiers())) rows.add(Modifier.toString(f.getModifiers()) + " int " + f.getName());
        }
        for (Constructor<?> c : DecoderForge.class.getDeclaredConstructors()) {
            rows.add(Modifier.toString(c.getModifiers()) + " " + c.getName() + types(c.getParameterTypes()));
        }
        for (Method m : DecoderForge.class.getDeclaredMethods()) {
            if (Modifier.isPrivate(m.getModifiers())) continue;
            rows.add(Modifier.toString(m.getModifiers()) + " " + m.getReturnType() + " " + m.getName() + types(m.getParameterTypes()));
        }
        rows.sort(Comparator.naturalOrder());
        return rows;
    }

    private static String types(Class<?>[] parameters) {
        StringJoiner out = new StringJoiner(",", "(", ")");
        for (Class<?> p : parameters) out.add(p.getName());
        return out.toString();
    }

    private static List<String> faceThatIsDue() {
        List<String> rows = new ArrayList<>();
        Matcher m = Pattern.compile("public ([^;{]*);").matcher(sections.get("The public face"));
        while (m.find()) {
            String row = m.group(1);
            if (row.contains("(")) {
                rows.add("public " + row.replaceAll("(int|long) \\w+([,)])", "$1$2").replace(", ", ","));
            } else {
                for (String constant : row.replace("static final int ", "").split(",")) {
                    rows.add("public static final int " + constant.replaceAll("=.*", "").trim());
                }
            }
        }
        rows.sort(Comparator.naturalOrder());
        return rows;
    }

    private static void lookAtFace() {
        List<String> due = faceThatIsDue();
        check(due.size() == 43, "the document's face has " + due.size() + " rows, not 2 constants, a constructor and 40 calls");
        check(due.equals(faceThatIs()), "the face is\n " + faceThatIs() + "\nnot\n " + due);
        check(Modifier.toString(DecoderForge.class.getModifiers()).equals("public final"), "the class isn't public and final");
        check(sections.get("The public face").contains("NONE = " + DecoderForge.NONE + ", MIXED = " + DecoderForge.MIXED + ";"),
                "the constants are others");
        mark("The public face", 0, sections.get("The public face").length());
    }

    /** Each promise's heading and signature are those of the face, in its order. */
    private static void lookAtSignatures() {
        Matcher m = Pattern.compile("public ([^;{=]*\\));").matcher(sections.get("The public face"));
        for (Map.Entry<String, String> e : sections.entrySet()) {
            Matcher heading = PROMISE.matcher(e.getKey());
            if (!heading.matches()) continue;
            Matcher signature = SIGNATURE.matcher(e.getValue());
            check(m.find() && signature.find() && signature.group(1).equals(m.group(1)), e.getKey() + " has another signature");
            mark(e.getKey(), 0, signature.end());
        }
    }

    /** What the interface says ahead of calls stands in the class ahead of them too, and they are in that order. */
    private static void lookAtGroups() throws IOException {
        String source = Files.readString(SOURCE);
        String terms = sections.get("Terms");
        Matcher group = GROUP.matcher(terms);
        int at = 0;
        while (group.find()) {
            mark("Terms", group.start(), group.end());
            at = source.indexOf("// ---- " + group.group(2) + "\n", at);
            check(at >= 0, "the class doesn't say: " + group.group(2));
            for (String name : group.group(1).split(", ")) {
                Matcher next = Pattern.compile("\n    public (?:int|long) (\\w+)\\(|\n    // ---- ").matcher(source);
                boolean found = next.find(Math.max(at, 0)) && name.equals(next.group(1));
                check(found, name + " doesn't stand in its place under: " + group.group(2));
                if (found) at = next.end() - 1;
            }
        }
    }

    // ---- sentences

    private static void mark(String heading, int from, int to) {
        Arrays.fill(borne.get(heading), from, to, true);
    }

    private static boolean bears(String heading, String words) {
        int at = sections.get(heading).indexOf(words);
        if (at < 0) return false;
        mark(heading, at, at + words.length());
        return true;
    }

    private static String headingFor(String test, String words) {
        if (test.startsWith("p")) {
            for (String heading : sections.keySet()) {
                Matcher m = PROMISE.matcher(heading);
                if (m.matches() && Integer.parseInt(m.group(1)) == Integer.parseInt(test.substring(1, 3))) return heading;
            }
        }
        return sections.get("What it is").contains(words) ? "What it is" : "Terms";
    }

    private static void runAll() throws IllegalAccessException, InvocationTargetException {
        for (Class<?> part : PARTS) {
            Method[] methods = part.getDeclaredMethods();
            Arrays.sort(methods, Comparator.comparing(Method::getName));
            for (Method method : methods) {
                Bounds.Says says = method.getAnnotation(Bounds.Says.class);
                if (says == null) continue;
                String name = method.getName();
                check(TEST.matcher(name).matches(), name + " isn't named by its part of the document");
                String words = plain(says.value());
                check(bears(headingFor(name, words), words), name + ": the document doesn't say there: " + words);
                Bounds.test = name;
                int asked = Bounds.asked;
                method.invoke(null);
                check(Bounds.asked > asked, name + " asks nothing");
                tests++;
            }
        }
    }

    /** What no test bears; numbers of the document's own list, and signs between sentences, need none. */
    private static void lookForGaps() {
        for (Map.Entry<String, String> e : sections.entrySet()) {
            String heading = e.getKey();
            if (heading.isEmpty() || heading.equals("Not promised")) continue;
            StringBuilder rest = new StringBuilder();
            for (int i = 0; i < e.getValue().length(); i++) {
                rest.append(borne.get(heading)[i] ? '\n' : e.getValue().charAt(i));
            }
            for (String gap : rest.toString().split("\n")) {
                check(gap.replaceAll("^\\s*\\d\\.\\s*$", "").isBlank(), "under '" + heading + "' no test bears: " + gap.trim());
            }
        }
    }

    public static void main(String[] args) throws Exception {
        readSections();
        lookAtFace();
        lookAtSignatures();
        lookAtGroups();
        runAll();
        lookForGaps();
        System.out.println("DocumentTest: " + sections.size() + " sections, " + tests + " tests of sentences, " + looks + " looks, "
                + Bounds.asked + " answers, " + (Bounds.wrong + faults) + " not as due");
        if (Bounds.wrong + faults != 0) System.exit(1);
    }
}
