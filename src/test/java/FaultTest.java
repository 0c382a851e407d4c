import java.util.ArrayList;
import java.util.Arrays;
import java.util.List;
import java.util.TreeSet;
import java.util.regex.Matcher;
import java.util.regex.Pattern;

/**
 * Faults of texts and lines as the document defines them, not by reading from left to right: the first byte with
 * which none goes on is found by asking an expression of the grammar how much of the tape may still become one,
 * the other faults by looking at the parts; the least place counts. Tapes: some that stand, and all that come of
 * them by one byte more, one less or another one, and by an end at each place; of some lines by two such changes
 * (with an argument of a text, too, which takes a minute).
 */
public final class FaultTest {
    private static final String LETTERS = "wxyzWXYZ";
    private static final String RULE = "[w-zW-Z](?:[#/][0-9]{1,3}|<[w-zW-Z])";
    private static final String STATEMENT = "[pjlcstg][a-z]{1,3}:[01.w-zW-Z]{12}(?:," + RULE + ")*";
    private static final Pattern TEXT = Pattern.compile(STATEMENT + "(?:;" + STATEMENT + ")*");
    private static final String SIGNS = "pjgabz:;,01.wWxX#/<239 -5{`@";
    private static final int NO_FAULT = Integer.MAX_VALUE;

    private static int asked = 0;
    private static int wrong = 0;

    private static void due(String what, long got, long want) {
        asked++;
        if (got != want) {
            wrong++;
            if (wrong < 20) System.out.println("FaultTest: " + what + " answered " + got + ", due is " + want);
        }
    }

    private static boolean goesOn(Pattern grammar, String s) {
        Matcher m = grammar.matcher(s);
        return m.matches() || m.hitEnd();
    }

    /** The first byte with which nothing goes on; how many bytes there are, if it ends too early. */
    private static int byGrammar(Pattern grammar, String s) {
        if (grammar.matcher(s).matches()) return NO_FAULT;
        int stands = 0;
        while (stands < s.length() && goesOn(grammar, s.substring(0, stands + 1))) stands++;
        return stands;
    }

    // ---- texts

    private static int textFault(List<String> names, String s) {
        int fault = byGrammar(TEXT, s);
        String good = s.substring(0, Math.min(fault, s.length()));
        TreeSet<Integer> places = new TreeSet<>();
        places.add(fault);
        List<String> there = new ArrayList<>(names);
        int start = 0;
        for (String statement : good.split(";", -1)) {
            if (there.size() >= 12 && !statement.isEmpty()) places.add(start);
            int colon = statement.indexOf(':');
            if (colon >= 0) {
                String name = statement.substring(1, colon);
                if (there.contains(name)) places.add(start + colon);
                there.add(name);
                patternFaults(places, statement, colon + 1, start);
            }
            start += statement.length() + 1;
        }
        return places.first();
    }

    private static void patternFaults(TreeSet<Integer> places, String statement, int from, int start) {
        String pattern = statement.substring(from, Math.min(from + 12, statement.length()));
        for (char letter : LETTERS.toCharArray()) {
            int at = -1;
            for (int i = 0; i < 9 && (i == 0 || at >= 0); i++) at = pattern.indexOf(letter, at + 1);
            if (at >= 0) places.add(start + from + at);
        }
        if (statement.length() <= from + 12) return;
        String[] rules = statement.substring(from + 13).split(",", -1);
        int at = start + from + 13;
        for (int i = 0; i < rules.length; i++) {
            if (i >= 3) places.add(at - 1);
            ruleFaults(places, pattern, rules[i], at);
            at += rules[i].length() + 1;
        }
    }

    private static void ruleFaults(TreeSet<Integer> places, String pattern, String rule, int at) {
        if (rule.length() > 0 && pattern.indexOf(rule.charAt(0)) < 0) places.add(at);
        if (rule.length() < 3) return;
        if (rule.charAt(1) == '<') {
            if (pattern.indexOf(rule.charAt(2)) < 0) places.add(at + 2);
            return;
        }
        int number = Integer.parseInt(rule.substring(2));
        if (rule.charAt(1) == '#' ? number > 255 : number < 2 || number > 9) places.add(at + 2);
    }

    private static void askText(String before, List<String> names, String s) {
        if (s.length() > 200) return;
        DecoderForge x = before.isEmpty() ? new DecoderForge() : Bounds.with(before);
        int fault = textFault(names, s);
        int forms = names.size() + s.split(";", -1).length;
        due("text '" + s + "'", Bounds.text(x, s), fault == NO_FAULT ? forms : -10 - fault);
    }

    private static List<String> namesOf(String before) {
        List<String> names = new ArrayList<>();
        for (String statement : before.split(";")) {
            if (!statement.isEmpty()) names.add(statement.substring(1, statement.indexOf(':')));
        }
        return names;
    }

    // ---- lines

    /** A form for lines: its name, its fields' least and greatest numbers. */
    private record Told(String name, int[] least, int[] greatest) {
        Pattern grammar() { return Pattern.compile(name + " (-?[0-9]{1,3})".repeat(least.length)); }
    }

    private static final String FORMS = "pa:0000wwwwXXXX;pab:0001YYYYYYYY;pabc:0010zzzzzzzz;pb:0011........;pc:0100w..xWXY.";
    private static final List<Told> TOLD = List.of(new Told("a", new int[] {0, -8}, new int[] {15, 7}),
        new Told("ab", new int[] {-128}, new int[] {127}), new Told("abc", new int[] {0}, new int[] {255}),
        new Told("b", new int[0], new int[0]),
        new Told("c", new int[] {0, 0, -1, -1, -1}, new int[] {1, 1, 0, 0, 0}));

    private static int lineFault(String s) {
        int letters = 0;
        while (letters < s.length() && s.charAt(letters) >= 'a' && s.charAt(letters) <= 'z') letters++;
        for (Told told : TOLD) {
            if (!told.name.equals(s.substring(0, letters))) continue;
            int fault = byGrammar(told.grammar(), s);
            String[] numbers = s.substring(0, Math.min(fault, s.length())).split(" ", -1);
            int at = letters + 1;
            for (int i = 1; i < numbers.length; i++) {
                boolean whole = numbers[i].matches("-?[0-9]+");
                int number = whole ? Integer.parseInt(numbers[i]) : 0;
                if (whole && (number < told.least[i - 1] || number > told.greatest[i - 1])) return Math.min(fault, at);
                at += numbers[i].length() + 1;
            }
            return fault;
        }
        return letters;
    }

    private static DecoderForge reader = null;
    private static int readings = 0;

    private static void askLine(String s) {
        // a reading takes 4 calls at most, and an object 512
        if (readings++ % 100 == 0) reader = Bounds.with(FORMS);
        int fault = lineFault(s);
        int answer = Bounds.read(reader, s);
        // the words of these forms are apart, so each line that stands gives a word of its form
        if (fault == NO_FAULT) due("whether '" + s + "' gives a word", answer >= 0 ? 1 : 0, 1);
        else due("line '" + s + "'", answer, -10 - fault);
    }

    // ---- tapes

    private static List<String> near(String s) {
        List<String> out = new ArrayList<>();
        for (int at = 0; at <= s.length(); at++) {
            out.add(s.substring(0, at));
            for (char sign : SIGNS.toCharArray()) {
                out.add(s.substring(0, at) + sign + s.substring(at));
                if (at < s.length()) out.add(s.substring(0, at) + sign + s.substring(at + 1));
            }
            if (at < s.length()) out.add(s.substring(0, at) + s.substring(at + 1));
        }
        return out;
    }

    public static void main(String[] args) {
        String ten = Bounds.alike(10, 'p', "............");
        List<String> texts = Arrays.asList("pa:01.wxyzWXYZ.,w#25,W<x,Z/9", "jab:wwwwwwww....;lb:XXXXXXXXwwww,X#255,w/2,X<w",
            "gzz:............;tzy:000000000000;sxa:WWWWWWWWXXXX,X#0", "paa:wwww........,w#1,w#20,w#199");
        for (String before : Arrays.asList("", "pa:............;pb:............;pzz:............", ten)) {
            List<String> names = namesOf(before);
            for (String text : texts) {
                for (String s : near(text)) askText(before, names, s);
            }
        }
        for (String line : Arrays.asList("a 15 -8", "a 0 7", "ab -128", "ab 127", "abc 255", "abc -0", "b", "c 1 0 -1 -0 000", "q 1", "?7")) {
            for (String s : near(line)) askLine(s);
        }
        for (String line : Arrays.asList("a 9 -8", "ab 127", "abc 0")) {
            for (String s : near(line)) {
                for (String t : near(s)) askLine(t);
            }
        }
        if (args.length > 0) {
            for (String s : near("paa:wwww........,w#1")) {
                for (String t : near(s)) askText("pa:............", List.of("a"), t);
            }
        }
        System.out.println("FaultTest: " + asked + " tapes, " + wrong + " not as due");
        if (wrong != 0) System.exit(1);
    }
}
