import java.lang.reflect.Method;
import java.util.ArrayList;
import java.util.HashMap;
import java.util.List;
import java.util.Map;
import java.util.Random;

/** Runs of up to 512 calls, drawn from fixed seeds, against the answers of the Oracle. */
public final class OracleTest {
    static final int RUNS = 400, CALLS = 512;

    private final Random random;
    private final DecoderForge forge = new DecoderForge();
    private final Oracle oracle = new Oracle();
    private final List<String> told = new ArrayList<>();
    private int calls = 0;
    private boolean wrong = false;

    private static final Map<String, Method> FORGE = methods(DecoderForge.class);
    private static final Map<String, Method> ORACLE = methods(Oracle.class);

    private OracleTest(long seed) {
        random = new Random(seed);
    }

    static Map<String, Method> methods(Class<?> of) {
        Map<String, Method> out = new HashMap<>();
        for (Method m : of.getDeclaredMethods()) {
            if (java.lang.reflect.Modifier.isPublic(m.getModifiers())) out.put(m.getName(), m);
        }
        return out;
    }

    public static void main(String[] args) throws Exception {
        long from = args.length > 0 ? Long.parseLong(args[0]) : 1;
        int runs = args.length > 1 ? Integer.parseInt(args[1]) : RUNS;
        int[] tally = new int[2];
        Map<String, Integer> answers = new HashMap<>();
        for (long seed = from; seed < from + runs; seed++) {
            OracleTest run = new OracleTest(seed);
            run.go();
            tally[run.wrong ? 1 : 0]++;
            if (run.wrong) {
                System.out.println("seed " + seed + ":");
                for (String row : run.told) System.out.println("  " + row);
                if (tally[1] == 3) break;
            }
            run.tell(answers);
        }
        if (args.length > 2) System.out.println(new java.util.TreeMap<>(answers));
        System.out.println("OracleTest: " + tally[0] + " runs as due, " + tally[1] + " not");
        if (tally[1] != 0) System.exit(1);
    }

    /** Which calls were answered how, to see that the runs come to the edges. */
    void tell(Map<String, Integer> answers) {
        for (String row : told) {
            String name = row.substring(0, row.indexOf('('));
            long answer = Long.parseLong(row.substring(row.indexOf("= ") + 2).split(" ")[0]);
            String how = answer <= -1001 && answer >= -1003 && !name.equals("covers") ? String.valueOf(answer)
                    : answer == -1 || answer == -2 ? String.valueOf(answer)
                    : answer <= -10 && (name.equals("text") || name.equals("read")) ? "fault" : "ok";
            answers.merge(name + " " + how, 1, Integer::sum);
        }
    }

    int call(String name, Object... args) throws Exception {
        if (calls >= CALLS || wrong) return 0;
        calls++;
        long want = ((Number) ORACLE.get(name).invoke(oracle, args)).longValue();
        long got = ((Number) FORGE.get(name).invoke(forge, args)).longValue();
        StringBuilder row = new StringBuilder(name).append('(');
        for (int i = 0; i < args.length; i++) row.append(i == 0 ? "" : ", ").append(args[i]);
        row.append(") = ").append(got);
        if (name.equals("feed")) row.append("   tape: ").append(oracle.tape);
        if (got != want) {
            row.append("   due: ").append(want);
            wrong = true;
        }
        told.add(row.toString());
        return (int) want;
    }

    void feedAll(String s) throws Exception {
        for (int i = 0; i < s.length();) {
            int n = Math.min(s.length() - i, random.nextInt(6) == 0 ? 1 + random.nextInt(8) : 8);
            long bytes = 0;
            for (int k = 0; k < n; k++) bytes |= (long) s.charAt(i + k) << (8 * k);
            // what stands above the told bytes doesn't count
            if (n < 8 && random.nextBoolean()) bytes |= random.nextLong() << (8 * n);
            call("feed", bytes, n);
            i += n;
        }
    }

    int below(int n) { return random.nextInt(n); }

    boolean chance(int percent) { return random.nextInt(100) < percent; }

    String pick(String from) { return String.valueOf(from.charAt(below(from.length()))); }

    String pattern() {
        if (!oracle.forms.isEmpty() && chance(55)) {
            char[] p = oracle.forms.get(below(oracle.forms.size())).pattern().toCharArray();
            for (int i = below(4); i > 0; i--) p[below(12)] = pick("01.wX").charAt(0);
            return new String(p);
        }
        StringBuilder p = new StringBuilder();
        int style = below(4);
        String letters = style == 0 ? "wxyzWXYZ" : "" + pick("wxyz") + pick("WXYZ") + ".";
        int fixed = below(style == 1 ? 3 : 7);
        for (int i = 0; i < 12; i++) {
            if (style == 3) p.append(pick("0101..wwXXy"));
            else if (i < fixed) p.append(pick("01"));
            else if (i > fixed && chance(70)) p.append(p.charAt(i - 1));
            else p.append(pick(letters));
        }
        return p.toString();
    }

    String number() {
        return chance(70) ? String.valueOf(below(12)) : String.valueOf(below(chance(70) ? 256 : 1200));
    }

    String rule(String pattern) {
        String there = pattern.replaceAll("[01.]", "");
        if (there.isEmpty() || chance(3)) there = "wxyzWXYZ";
        switch (below(3)) {
            case 0: return pick(there) + "#" + (chance(10) ? "00" : "") + number();
            case 1: return pick(there) + "/" + (chance(10) ? number() : String.valueOf(2 + below(8)));
            default: return pick(there) + "<" + pick(there);
        }
    }

    String name() {
        StringBuilder n = new StringBuilder();
        for (int i = 1 + below(3); i > 0; i--) n.append(pick(chance(70) ? "abc" : Oracle.ABC));
        return n.toString();
    }

    String statement() {
        String p = pattern();
        StringBuilder s = new StringBuilder(pick("pjlcstg")).append(name()).append(':').append(p);
        boolean fields = !p.replaceAll("[01.]", "").isEmpty();
        for (int i = fields && chance(45) ? below(chance(5) ? 5 : 4) : 0; i > 0; i--) s.append(',').append(rule(p));
        return s.toString();
    }

    String spoilt(String s) {
        StringBuilder out = new StringBuilder(s);
        for (int i = 1 + below(2); i > 0 && out.length() > 0; i--) {
            int at = below(out.length());
            String sign = chance(10) ? String.valueOf((char) below(256)) : pick("pjab:;,01.wWxX#/<29 -5");
            switch (below(4)) {
                case 0: out.setCharAt(at, sign.charAt(0)); break;
                case 1: out.deleteCharAt(at); break;
                case 2: out.insert(at, sign); break;
                default: out.setLength(at); break;
            }
        }
        return out.toString();
    }

    void aText() throws Exception {
        StringBuilder s = new StringBuilder(statement());
        for (int i = below(chance(30) ? 7 : 3); i > 0; i--) s.append(';').append(statement());
        feedAll(chance(20) ? spoilt(s.toString()) : s.toString());
        call("text");
    }

    void aLine() throws Exception {
        String s = oracle.line;
        if (!oracle.forms.isEmpty() && chance(70)) {
            Oracle.Told f = oracle.forms.get(below(oracle.forms.size()));
            s = f.name();
            for (char c : Oracle.fieldsOf(f).toCharArray()) {
                int w = Oracle.width(f, c);
                int v = below(1 << w) - (Character.isUpperCase(c) ? 1 << (w - 1) : 0);
                if (chance(5)) v = below(1400) - 700;
                s += " " + (v < 0 || chance(3) ? "-" : "") + (chance(8) ? pick("0123") : "") + (chance(5) ? "0" : "") + Math.abs(v);
            }
        }
        feedAll(chance(20) ? spoilt(s) : s);
        call("read");
    }

    int aWord() {
        if (chance(3)) return chance(50) ? -1 : 4096 + below(3);
        if (!oracle.forms.isEmpty() && chance(75)) {
            int f = below(oracle.forms.size());
            Oracle.Told told = oracle.forms.get(f);
            return Oracle.value(told) | below(4096) & ~Oracle.mask(told);
        }
        return below(4096);
    }

    int aForm() {
        return chance(5) ? (chance(50) ? -1 : oracle.forms.size()) : chance(3) ? random.nextInt() : below(Math.max(1, oracle.forms.size()));
    }

    int aMeaning() { return chance(25) ? 12 + below(3) : aForm(); }

    int upTo(int n) { return chance(4) ? (chance(50) ? -1 : n + 1) : chance(2) ? random.nextInt() : below(n + 1); }

    int aSet() {
        int set = 0;
        for (int i = below(8); i > 0; i--) set |= 1 << below(12);
        return chance(3) ? (chance(50) ? set | 4096 : set - 4096) : set;
    }

    int[] formWithField() {
        int form = aForm();
        if (oracle.isForm(form) && chance(85)) {
            String there = Oracle.fieldsOf(oracle.forms.get(form));
            if (!there.isEmpty()) return new int[] {form, Oracle.LETTERS.indexOf(pick(there))};
        }
        return new int[] {form, upTo(7)};
    }

    int aNumberFor(int letter) {
        if (chance(20)) return below(600) - 260;
        return letter < 4 ? below(1 << (1 + below(8))) : below(1 << (1 + below(7))) - (chance(50) ? 1 << below(7) : 0);
    }

    void fillCells() throws Exception {
        for (int i = 4 + below(10); i > 0; i--) call("put", chance(60) ? below(12) : upTo(31), aWord());
    }

    void go() throws Exception {
        int mode = below(5);
        if (mode == 0) {
            someForms();
            while (calls < CALLS && !wrong) storeCall();
        }
        while (mode == 1 && calls < CALLS && !wrong) textCall();
        int texts = 0;
        while (calls < CALLS && !wrong) {
            if (texts < 2 || chance(2)) {
                if (chance(85)) call("wipe");
                aText();
                texts++;
                if (chance(70)) fillCells();
                continue;
            }
            one(below(46));
        }
    }

    /** Forms of all kinds that hardly clash, so that ways through the store are long. */
    void someForms() throws Exception {
        String near = "WWWW";
        String[] ways = {"pa:0001" + near + "xxxx", "jb:001." + near + "wwyy", "lc:0011xxxxyyyy,x/2", "cd:0100.." + near + "..",
            "se:0101......zz", "tf:0110xxxxxxxx", "gg:0111" + near + "zzzz", "jh:1..........w", "th:10......W.w.,w#0"};
        List<String> some = new ArrayList<>();
        for (String way : ways) if (chance(75)) some.add(way.replace("W", chance(80) ? "W" : "."));
        if (some.isEmpty()) some.add(ways[0]);
        feedAll(String.join(";", some));
        call("text");
        for (int i = 0; i < 32; i++) call("put", i, aWord());
    }

    void storeCall() throws Exception {
        switch (below(14)) {
            case 0: case 1: case 2: call("put", upTo(31), aWord()); break;
            case 3: case 4: case 5: call("run", upTo(31), chance(70) ? upTo(200) : 1 + below(6)); break;
            case 6: call("order", upTo(33)); break;
            case 7: call("met", oracle.met.isEmpty() || chance(30) ? aWord() : oracle.met.get(below(oracle.met.size()))); break;
            case 8: call("walk", upTo(31), upTo(200), upTo(4)); break;
            case 9: call("halts", upTo(31)); break;
            case 10: if (chance(40)) call("undo"); else call("count", 3 + below(2)); break;
            case 11: call("copy", upTo(31), upTo(31), below(20)); break;
            case 12: if (chance(30)) call("image"); else if (chance(10)) call("back"); break;
            default: call("order", below(2) * 31); break;
        }
    }

    void textCall() throws Exception {
        switch (below(9)) {
            case 0: if (chance(80)) call("wipe"); aText(); break;
            case 1: call("feed", random.nextLong(), 8); break;
            case 2: if (chance(10)) feedAll("pa:0;".repeat(39) + "pa"); break;
            case 3: call("image"); break;
            case 4: call("back"); break;
            case 5: call("wipe"); aLine(); break;
            case 6: call("write", aWord()); call("wipe"); feedAll(oracle.line); call("read"); break;
            case 7: call("count", below(3)); break;
            default: call("odd", below(3)); break;
        }
    }

    void one(int which) throws Exception {
        int[] field = formWithField();
        switch (which) {
            case 0: call("feed", random.nextLong(), upTo(9)); if (chance(30)) call("wipe"); break;
            case 1: call("wipe"); break;
            case 2: if (chance(20)) call(chance(50) ? "text" : "read"); break;
            case 3: call("formOf", aForm(), upTo(5)); break;
            case 4: aName(); break;
            case 5: call("ofKind", upTo(6)); break;
            case 6: call("means", aWord()); break;
            case 7: call("fits", aWord()); break;
            case 8: call("over", aForm(), aForm()); break;
            case 9: call("many", aMeaning()); break;
            case 10: call("covers", aMeaning(), upTo(63)); break;
            case 11: call("next", aMeaning(), chance(30) ? -1 : chance(5) ? 4095 + below(3) : aWord() - below(2)); break;
            case 12: call("clash", chance(50) ? upTo(4) : upTo(60), upTo(1)); break;
            case 13: call("odd", upTo(2)); break;
            case 14: case 15: call("greedy", aSet(), upTo(3)); break;
            case 16: call("least", aSet(), upTo(1)); break;
            case 17: call("leaf", aSet(), aWord()); break;
            case 18: call("field", field[0], field[1], upTo(2)); break;
            case 19: call("taken", field[0], field[1], aWord()); break;
            case 20: call("laid", field[0], field[1], aWord(), aNumberFor(field[1])); break;
            case 21: case 22: call("hold", field[1], aNumberFor(field[1])); break;
            case 23: case 24: call("make", aForm()); break;
            case 25: call("write", aWord()); for (int i = below(8); i >= 0; i--) call("written", i); break;
            case 26: call("written", below(12) - 1); break;
            case 27: case 28: aLine(); break;
            case 29: case 30: call("put", upTo(31), aWord()); break;
            case 31: call("cell", upTo(31)); break;
            case 32: call("copy", upTo(31), upTo(31), chance(80) ? upTo(6) : random.nextInt()); break;
            case 33: call("holders", aMeaning()); break;
            case 34: case 35: call("walk", below(12), chance(50) ? upTo(200) : upTo(12), upTo(4)); break;
            case 36: call("halts", upTo(31)); break;
            case 37: case 38: call("run", below(12), chance(50) ? upTo(200) : upTo(6)); break;
            case 39: call("met", chance(60) ? oracle.cells[below(32)] : aWord()); break;
            case 40: call("order", upTo(33)); break;
            case 41: call("costs", aWord()); break;
            case 42: for (int i = chance(10) ? 18 : below(4); i >= 0; i--) call("undo"); break;
            case 43: if (chance(60)) call("image"); else if (chance(50)) call("back"); break;
            case 44: call("count", upTo(4)); break;
            default: call("refused", upTo(2)); break;
        }
    }

    void aName() throws Exception {
        if (oracle.forms.isEmpty() || chance(30)) {
            call("named", upTo(25), below(27) - 1, below(27) - 1);
            return;
        }
        String n = oracle.forms.get(below(oracle.forms.size())).name();
        call("named", n.charAt(0) - 'a', n.length() > 1 ? n.charAt(1) - 'a' : -1, n.length() > 2 ? n.charAt(2) - 'a' : -1);
    }
}
