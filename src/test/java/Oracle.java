import java.util.ArrayDeque;
import java.util.ArrayList;
import java.util.Arrays;
import java.util.List;

/**
 * The document once more, as plainly as it can be said and without care for speed: the runs of
 * OracleTest ask it what is due. It shares no code and no way of holding things with DecoderForge.
 */
final class Oracle {
    static final int BAD = -1001, FULL = -1002, STATE = -1003;
    static final String LETTERS = "wxyzWXYZ";
    static final String KINDS = "pjlcstg";
    static final int[][] UNDER = {{0, 1, 2, 3, 4, 5, 6}, {1, 3, 6}, {2, 4}, {3, 6}, {4}, {5}, {6}};

    /** kind letter, name, pattern, rules as they were told. */
    record Told(int kind, String name, String pattern, List<String> rules) { }

    @SuppressWarnings("serial")
    static final class Fault extends Exception {
        final int place;
        Fault(int place) { this.place = place; }
    }

    record Kept(List<Told> forms, int[] hand, int[] cells, List<Integer> met) { }

    List<Told> forms = new ArrayList<>();
    int[] hand = new int[8];
    int[] cells = new int[32];
    List<Integer> met = new ArrayList<>();
    String tape = "";
    String line = "";
    ArrayDeque<Kept> past = new ArrayDeque<>();
    Kept image = null;
    int[] refusals = new int[3];

    int[] meaningOfAll = null;
    int[] fittingAll = null;

    // ---- definitions

    static final String[] BITS = new String[4096];
    static {
        for (int word = 0; word < 4096; word++) BITS[word] = Integer.toBinaryString(4096 + word).substring(1);
    }

    static String bits(int word) { return BITS[word]; }

    static int mask(Told f) {
        return Integer.parseInt(f.pattern.replaceAll("[01]", "f").replaceAll("[^f]", "0").replace('f', '1'), 2);
    }

    static int value(Told f) {
        return Integer.parseInt(f.pattern.replaceAll("[^1]", "0"), 2);
    }

    static int width(Told f, char letter) {
        return (int) f.pattern.chars().filter(c -> c == letter).count();
    }

    static int stands(Told f, char letter, int word) {
        StringBuilder raw = new StringBuilder();
        String w = bits(word);
        for (int i = 0; i < 12; i++) if (f.pattern.charAt(i) == letter) raw.append(w.charAt(i));
        if (raw.length() == 0) return 0;
        int n = Integer.parseInt(raw.toString(), 2);
        if (Character.isUpperCase(letter) && raw.charAt(0) == '1') n -= (int) Math.pow(2, raw.length());
        return n;
    }

    static boolean canStand(Told f, char letter, int v) {
        int w = width(f, letter);
        return Character.isUpperCase(letter) ? v >= -Math.pow(2, w - 1) && v <= Math.pow(2, w - 1) - 1
                : v >= 0 && v <= Math.pow(2, w) - 1;
    }

    static int lay(Told f, char letter, int word, int v) {
        for (int other = 0; other < 4096; other++) {
            boolean same = stands(f, letter, other) == v;
            for (int i = 0; i < 12 && same; i++) {
                if (f.pattern.charAt(i) != letter && bits(other).charAt(i) != bits(word).charAt(i)) same = false;
            }
            if (same) return other;
        }
        throw new IllegalStateException();
    }

    static String fieldsOf(Told f) {
        StringBuilder out = new StringBuilder();
        for (char c : f.pattern.toCharArray()) {
            if (LETTERS.indexOf(c) >= 0 && out.indexOf(String.valueOf(c)) < 0) out.append(c);
        }
        return out.toString();
    }

    static boolean fit(Told f, int word) {
        String w = bits(word);
        for (int i = 0; i < 12; i++) {
            char c = f.pattern.charAt(i);
            if ((c == '0' || c == '1') && c != w.charAt(i)) return false;
        }
        for (String rule : f.rules) {
            int l = stands(f, rule.charAt(0), word);
            String rest = rule.substring(2);
            boolean holds = switch (rule.charAt(1)) {
                case '#' -> l != Integer.parseInt(rest);
                case '/' -> Math.floorMod(l, Integer.parseInt(rest)) == 0;
                default -> l < stands(f, rest.charAt(0), word);
            };
            if (!holds) return false;
        }
        return true;
    }

    static boolean isOver(Told a, Told b) {
        int more = 0;
        for (int i = 0; i < 12; i++) {
            boolean af = "01".indexOf(a.pattern.charAt(i)) >= 0;
            boolean bf = "01".indexOf(b.pattern.charAt(i)) >= 0;
            if (bf && a.pattern.charAt(i) != b.pattern.charAt(i)) return false;
            if (af && !bf) more++;
        }
        return more > 0;
    }

    void know() {
        if (meaningOfAll != null) return;
        meaningOfAll = new int[4096];
        fittingAll = new int[4096];
        for (int word = 0; word < 4096; word++) {
            List<Integer> fitting = new ArrayList<>();
            for (int f = 0; f < forms.size(); f++) {
                if (fit(forms.get(f), word)) {
                    fitting.add(f);
                    fittingAll[word] += 1 << f;
                }
            }
            int meaning = fitting.isEmpty() ? 12 : 13;
            for (int f : fitting) {
                boolean all = true;
                for (int g : fitting) if (g != f && !isOver(forms.get(f), forms.get(g))) all = false;
                if (all) meaning = f;
            }
            meaningOfAll[word] = meaning;
        }
    }

    int meaning(int word) {
        know();
        return meaningOfAll[word];
    }

    int refuse(int r) {
        refusals[-1001 - r]++;
        return r;
    }

    boolean isForm(int f) { return f >= 0 && f < forms.size(); }

    static boolean isWord(int w) { return w >= 0 && w <= 4095; }

    boolean isTold(int f) { return isForm(f) || f == 12 || f == 13; }

    static boolean isCell(int c) { return c >= 0 && c <= 31; }

    static boolean isSet(int t) { return isWord(t) && bits(t).replace("0", "").length() <= 6; }

    Kept snapshot() { return new Kept(new ArrayList<>(forms), hand.clone(), cells.clone(), new ArrayList<>(met)); }

    void restore(Kept k) {
        forms = new ArrayList<>(k.forms);
        hand = k.hand.clone();
        cells = k.cells.clone();
        met = new ArrayList<>(k.met);
        meaningOfAll = null;
    }

    void did() {
        past.addLast(snapshot());
        if (past.size() > 16) past.removeFirst();
    }

    // ---- texts, forms

    public int feed(long bytes, int n) {
        if (n < 1 || n > 8) return refuse(BAD);
        if (tape.length() + n > 200) return refuse(FULL);
        for (int i = 0; i < n; i++) {
            tape += (char) (bytes & 0xFF);
            bytes >>= 8;
        }
        return tape.length();
    }

    public int wipe() {
        int had = tape.length();
        tape = "";
        return had;
    }

    char sign(String s, int at, String allowed) throws Fault {
        if (at >= s.length() || allowed.indexOf(s.charAt(at)) < 0) throw new Fault(Math.min(at, s.length()));
        return s.charAt(at);
    }

    static final String ABC = "abcdefghijklmnopqrstuvwxyz";

    int statement(String s, int at, List<Told> all) throws Fault {
        if (all.size() == 12) throw new Fault(at);
        int kind = KINDS.indexOf(sign(s, at++, KINDS));
        String name = "" + sign(s, at++, ABC);
        while (name.length() < 3 && at < s.length() && ABC.indexOf(s.charAt(at)) >= 0) name += s.charAt(at++);
        for (Told t : all) if (t.name.equals(name)) throw new Fault(at);
        sign(s, at++, ":");
        String pattern = "";
        for (int i = 0; i < 12; i++) {
            char c = sign(s, at, "01." + LETTERS);
            if (LETTERS.indexOf(c) >= 0 && pattern.chars().filter(o -> o == c).count() == 8) throw new Fault(at);
            pattern += c;
            at++;
        }
        String there = fieldsOf(new Told(0, "", pattern, List.of()));
        List<String> rules = new ArrayList<>();
        while (at < s.length() && s.charAt(at) == ',') {
            if (rules.size() == 3) throw new Fault(at);
            at++;
            String rule = "" + sign(s, at++, there);
            char op = sign(s, at++, "#/<");
            rule += op;
            if (op == '<') {
                rule += sign(s, at++, there);
            } else {
                int from = at;
                sign(s, at++, "0123456789");
                while (at < from + 3 && at < s.length() && "0123456789".indexOf(s.charAt(at)) >= 0) at++;
                int n = Integer.parseInt(s.substring(from, at));
                if (op == '#' ? n > 255 : n < 2 || n > 9) throw new Fault(from);
                rule += n;
            }
            rules.add(rule);
        }
        all.add(new Told(kind, name, pattern, rules));
        return at;
    }

    public int text() {
        String s = tape;
        tape = "";
        List<Told> all = new ArrayList<>(forms);
        try {
            int at = statement(s, 0, all);
            while (at < s.length()) {
                sign(s, at++, ";");
                at = statement(s, at, all);
            }
        } catch (Fault f) {
            return -10 - f.place;
        }
        forms = all;
        meaningOfAll = null;
        past.clear();
        return forms.size();
    }

    public int formOf(int form, int what) {
        if (!isForm(form) || what < 0 || what > 5) return refuse(BAD);
        Told f = forms.get(form);
        return new int[] {f.kind, mask(f), value(f), fieldsOf(f).length(), f.rules.size(), f.name.length()}[what];
    }

    public int named(int a, int b, int c) {
        if (a < 0 || a > 25 || b < -1 || b > 25 || c < -1 || c > 25 || b == -1 && c >= 0) return refuse(BAD);
        String name = "";
        for (int l : new int[] {a, b, c}) if (l >= 0) name += ABC.charAt(l);
        for (int f = 0; f < forms.size(); f++) if (forms.get(f).name.equals(name)) return f;
        return -1;
    }

    public int ofKind(int kind) {
        if (kind < 0 || kind > 6) return refuse(BAD);
        int set = 0;
        for (int f = 0; f < forms.size(); f++) {
            for (int k : UNDER[kind]) if (forms.get(f).kind == k) set += 1 << f;
        }
        return set;
    }

    // ---- what words mean

    public int means(int word) {
        if (!isWord(word)) return refuse(BAD);
        int m = meaning(word);
        return m == 12 ? -1 : m == 13 ? -2 : m;
    }

    public int fits(int word) {
        if (!isWord(word)) return refuse(BAD);
        know();
        return fittingAll[word];
    }

    public int over(int form, int other) {
        if (!isForm(form) || !isForm(other) || form == other) return refuse(BAD);
        return isOver(forms.get(form), forms.get(other)) ? 1 : 0;
    }

    public int many(int form) {
        if (!isTold(form)) return refuse(BAD);
        know();
        return (int) Arrays.stream(meaningOfAll).filter(m -> m == form).count();
    }

    public long covers(int form, int p) {
        if (!isForm(form) || p < 0 || p > 63) return 0;
        long set = 0;
        for (int i = 63; i >= 0; i--) set = set * 2 + (meaning(64 * p + i) == form ? 1 : 0);
        return set;
    }

    public int next(int form, int above) {
        if (!isTold(form) || above < -1 || above > 4095) return refuse(BAD);
        for (int w = 0; w < 4096; w++) if (w > above && meaning(w) == form) return w;
        return -1;
    }

    List<int[]> clashes() {
        know();
        List<int[]> out = new ArrayList<>();
        for (int a = 0; a < forms.size(); a++) {
            for (int b = a + 1; b < forms.size(); b++) {
                for (int w = 0; w < 4096; w++) {
                    if (meaningOfAll[w] == 13 && (fittingAll[w] >> a) % 2 == 1 && (fittingAll[w] >> b) % 2 == 1) {
                        out.add(new int[] {16 * a + b, w});
                        break;
                    }
                }
            }
        }
        return out;
    }

    public int clash(int i, int what) {
        if (i < 0 || what < 0 || what > 1) return refuse(BAD);
        List<int[]> all = clashes();
        return i < all.size() ? all.get(i)[what] : -1;
    }

    public int odd(int what) {
        if (what < 0 || what > 2) return refuse(BAD);
        if (what == 2) return clashes().size();
        int dead = 0, twins = 0;
        for (int f = 0; f < forms.size(); f++) {
            if (next(f, -1) == -1) dead += 1 << f;
            for (int g = 0; g < f; g++) {
                String a = forms.get(f).pattern.replaceAll("[^01]", "."), b = forms.get(g).pattern.replaceAll("[^01]", ".");
                if (a.equals(b)) twins++;
            }
        }
        return what == 0 ? dead : twins;
    }

    // ---- trees

    /** A tree: bit -1 is a leaf. */
    record Node(int bit, List<Integer> candidates, Node side0, Node side1) {
        int tests() { return bit < 0 ? 0 : 1 + side0.tests() + side1.tests(); }
        int depth() { return bit < 0 ? 0 : 1 + Math.max(side0.depth(), side1.depth()); }
        int crowd() { return bit < 0 ? candidates.size() : Math.max(side0.crowd(), side1.crowd()); }
        Node leafOf(int word) { return bit < 0 ? this : (word >> bit & 1) == 0 ? side0.leafOf(word) : side1.leafOf(word); }
    }

    List<Integer> side(List<Integer> among, int bit, char side) {
        List<Integer> out = new ArrayList<>();
        for (int f : among) {
            char c = forms.get(f).pattern.charAt(11 - bit);
            if (c != (side == '0' ? '1' : '0')) out.add(f);
        }
        return out;
    }

    boolean useful(List<Integer> among, int bit) {
        for (int f : among) if ("01".indexOf(forms.get(f).pattern.charAt(11 - bit)) >= 0) return true;
        return false;
    }

    List<Integer> everyone() {
        List<Integer> out = new ArrayList<>();
        for (int f = 0; f < forms.size(); f++) out.add(f);
        return out;
    }

    Node growGreedy(int t, List<Integer> among) {
        int best = -1;
        long bestKey = Long.MAX_VALUE;
        for (int bit = 0; bit < 12; bit++) {
            if ((t >> bit & 1) == 0 || !useful(among, bit)) continue;
            int a = side(among, bit, '0').size(), b = side(among, bit, '1').size();
            long key = Math.max(a, b) * 10000L + (a + b) * 100L + (11 - bit);
            if (key < bestKey) {
                bestKey = key;
                best = bit;
            }
        }
        if (best < 0) return new Node(-1, among, null, null);
        int rest = t - (1 << best);
        return new Node(best, among, growGreedy(rest, side(among, best, '0')), growGreedy(rest, side(among, best, '1')));
    }

    Node growLeast(int t, List<Integer> among) {
        Node best = null;
        int bestTests = 0;
        for (int bit = 11; bit >= 0; bit--) {
            if ((t >> bit & 1) == 0 || !useful(among, bit)) continue;
            int rest = t - (1 << bit);
            Node n = new Node(bit, among, growLeast(rest, side(among, bit, '0')), growLeast(rest, side(among, bit, '1')));
            int tests = n.tests();
            if (best == null || tests < bestTests) {
                best = n;
                bestTests = tests;
            }
        }
        return best != null ? best : new Node(-1, among, null, null);
    }

    public int greedy(int t, int what) {
        if (!isSet(t) || what < 0 || what > 3) return refuse(BAD);
        Node n = growGreedy(t, everyone());
        return new int[] {n.tests(), n.depth(), n.bit, n.crowd()}[what];
    }

    public int least(int t, int what) {
        if (!isSet(t) || what < 0 || what > 1) return refuse(BAD);
        Node n = growLeast(t, everyone());
        return what == 0 ? n.tests() : n.bit;
    }

    public int leaf(int t, int word) {
        if (!isSet(t) || !isWord(word)) return refuse(BAD);
        int set = 0;
        for (int f : growGreedy(t, everyone()).leafOf(word).candidates) set += 1 << f;
        return set;
    }

    // ---- fields, lines

    boolean hasField(int form, int letter) {
        return isForm(form) && letter >= 0 && letter <= 7 && width(forms.get(form), LETTERS.charAt(letter)) > 0;
    }

    public int field(int form, int letter, int what) {
        if (!isForm(form) || letter < 0 || letter > 7 || what < 0 || what > 2) return refuse(BAD);
        if (!hasField(form, letter)) return -1;
        Told f = forms.get(form);
        String l = LETTERS.substring(letter, letter + 1);
        int set = Integer.parseInt(f.pattern.replaceAll("[^" + l + "]", "0").replace(l, "1"), 2);
        return new int[] {width(f, l.charAt(0)), set, fieldsOf(f).indexOf(l)}[what];
    }

    public int taken(int form, int letter, int word) {
        if (!hasField(form, letter) || !isWord(word)) return refuse(BAD);
        return stands(forms.get(form), LETTERS.charAt(letter), word);
    }

    public int laid(int form, int letter, int word, int v) {
        if (!hasField(form, letter) || !isWord(word)) return refuse(BAD);
        if (!canStand(forms.get(form), LETTERS.charAt(letter), v)) return refuse(BAD);
        return lay(forms.get(form), LETTERS.charAt(letter), word, v);
    }

    public int hold(int letter, int v) {
        if (letter < 0 || letter > 7 || v < -128 || v > 255) return refuse(BAD);
        did();
        int held = hand[letter];
        hand[letter] = v;
        return held;
    }

    public int make(int form) {
        if (!isForm(form)) return refuse(BAD);
        Told f = forms.get(form);
        int word = value(f);
        for (char c : fieldsOf(f).toCharArray()) {
            int v = hand[LETTERS.indexOf(c)];
            if (!canStand(f, c, v)) return refuse(BAD);
            word = lay(f, c, word, v);
        }
        return meaning(word) == form ? word : refuse(STATE);
    }

    public int write(int word) {
        if (!isWord(word)) return refuse(BAD);
        int m = meaning(word);
        if (m >= 12) {
            line = (m == 12 ? "?" : "!") + word;
        } else {
            Told f = forms.get(m);
            line = f.name;
            for (char c : fieldsOf(f).toCharArray()) line += " " + stands(f, c, word);
        }
        return line.length();
    }

    public int written(int i) {
        return i >= 0 && i < line.length() ? line.charAt(i) : -1;
    }

    public int read() {
        String s = tape;
        tape = "";
        try {
            return lineWord(s);
        } catch (Fault f) {
            return -10 - f.place;
        }
    }

    int lineWord(String s) throws Fault {
        int at = 0;
        while (at < s.length() && ABC.indexOf(s.charAt(at)) >= 0) at++;
        int form = -1;
        for (int f = 0; f < forms.size(); f++) if (forms.get(f).name.equals(s.substring(0, at))) form = f;
        if (form < 0) throw new Fault(at);
        Told f = forms.get(form);
        int word = value(f);
        for (char c : fieldsOf(f).toCharArray()) {
            sign(s, at++, " ");
            int from = at;
            if (at < s.length() && s.charAt(at) == '-') at++;
            int digits = at;
            sign(s, at++, "0123456789");
            while (at < digits + 3 && at < s.length() && "0123456789".indexOf(s.charAt(at)) >= 0) at++;
            int v = Integer.parseInt(s.substring(from, at));
            if (!canStand(f, c, v)) throw new Fault(from);
            word = lay(f, c, word, v);
        }
        if (at < s.length()) throw new Fault(at);
        if (meaning(word) != form) throw new Fault(s.length() + 1);
        return word;
    }

    // ---- the store

    public int put(int cell, int word) {
        if (!isCell(cell) || !isWord(word)) return refuse(BAD);
        did();
        int was = cells[cell];
        cells[cell] = word;
        return was;
    }

    public int cell(int cell) {
        return isCell(cell) ? cells[cell] : refuse(BAD);
    }

    public int copy(int from, int to, int n) {
        if (!isCell(from) || !isCell(to) || n < 0 || (long) from + n > 32 || (long) to + n > 32) return refuse(BAD);
        did();
        int[] were = cells.clone();
        for (int i = 0; i < n; i++) cells[to + i] = were[from + i];
        return n;
    }

    public int holders(int form) {
        if (!isTold(form)) return refuse(BAD);
        int set = 0;
        for (int i = 0; i < 32; i++) if (meaning(cells[i]) == form) set |= 1 << i;
        return set;
    }

    /** The cells from which steps are gone, one for each step, and the one where it stands then. */
    record Way(List<Integer> left, int at, int returns, boolean halted) { }

    Way way(int cell, int n) {
        List<Integer> left = new ArrayList<>();
        List<Integer> returns = new ArrayList<>();
        int at = cell;
        while (left.size() < n) {
            int m = meaning(cells[at]);
            if (m >= 12) return new Way(left, at, returns.size(), true);
            int kind = forms.get(m).kind;
            int first = first(forms.get(m), cells[at]);
            if (kind == 5 && returns.isEmpty()) return new Way(left, at, 0, true);
            left.add(at);
            int behind = at == 31 ? 0 : at + 1;
            int goal = Math.floorMod(at + first, 32);
            if (kind == 5) {
                at = returns.remove(returns.size() - 1);
            } else if (kind == 1) {
                at = goal;
            } else if (kind == 3 || kind == 6 && Math.abs(first) % 2 == 0) {
                if (returns.size() == 4) returns.remove(0);
                returns.add(behind);
                at = goal;
            } else {
                at = behind;
            }
        }
        return new Way(left, at, returns.size(), false);
    }

    static int first(Told f, int word) {
        String fields = fieldsOf(f);
        return fields.isEmpty() ? 0 : stands(f, fields.charAt(0), word);
    }

    public int walk(int cell, int n, int what) {
        if (!isCell(cell) || n < 0 || n > 200 || what < 0 || what > 4) return refuse(BAD);
        Way way = way(cell, n);
        int sum = 0, set = 0;
        for (int c : way.left) {
            sum += costs(cells[c]);
            set |= 1 << c;
        }
        return new int[] {way.at, way.left.size(), sum, way.returns, set}[what];
    }

    public int halts(int cell) {
        if (!isCell(cell)) return refuse(BAD);
        Way way = way(cell, 201);
        return way.halted ? way.left.size() : -1;
    }

    public int run(int cell, int n) {
        if (!isCell(cell) || n < 1 || n > 200) return refuse(BAD);
        did();
        for (int c : way(cell, n).left) {
            if (met.contains(cells[c])) continue;
            met.add(cells[c]);
            if (met.size() > 32) met.remove(0);
        }
        return met.size();
    }

    public int met(int word) {
        if (!isWord(word)) return refuse(BAD);
        return met.contains(word) ? 1 : 0;
    }

    public int order(int i) {
        return i >= 0 && i < met.size() ? met.get(i) : -1;
    }

    public int costs(int word) {
        if (!isWord(word)) return refuse(BAD);
        int m = meaning(word);
        if (m >= 12) return 0;
        Told f = forms.get(m);
        int n = fieldsOf(f).length();
        return new int[] {1 + n, 3 + n, 3 + 3 * n, 6 + 2 * n, 2 + 3 * n, 9, 6 + 2 * n + Math.abs(first(f, word))}[f.kind];
    }

    // ---- back, what is told

    public int undo() {
        if (past.isEmpty()) return refuse(STATE);
        restore(past.removeLast());
        return past.size();
    }

    public int image() {
        image = snapshot();
        return forms.size();
    }

    public int back() {
        if (image == null) return refuse(STATE);
        restore(image);
        past.clear();
        return forms.size();
    }

    public int count(int what) {
        if (what < 0 || what > 4) return refuse(BAD);
        return new int[] {forms.size(), tape.length(), line.length(), past.size(), met.size()}[what];
    }

    public int refused(int which) {
        if (which < 0 || which > 2) return refuse(BAD);
        return refusals[which];
    }
}
