import java.util.Arrays;

/**
 * A forge of decoders over words of 12 bits: forms told as patterns with rules, what words mean
 * by them, trees that tell them apart, lines of words, and a store of words to go through.
 *
 * Everything that a call needs is made once, in the constructors: calls make no objects.
 */
public final class DecoderForge {
    public static final int NONE = -1, MIXED = -2;

    private static final int BAD = -1001, FULL = -1002, STATE = -1003;

    private static final int BITS = 12, WORDS = 4096, FORMS = 12, RULES = 3;
    private static final int LETTERS = 8, FIRST_SIGNED = 4, WIDEST = 8;
    private static final int TAPE_BYTES = 200, LINE_BYTES = 64;
    private static final int CELLS = 32, RETURNS = 4, MOST_STEPS = 200, MOST_MET = 32, PAST = 16;
    private static final int TREE_BITS = 6, TREE_STATES = 729;

    /** Behind the numbers of forms: a word's meaning, where it is no form. */
    private static final int NO_FORM = 12, SEVERAL = 13, MEANINGS = 14;

    private static final int PLAIN = 0, JUMP = 1, LOAD = 2, CALL = 3, STORE = 4, TRAP = 5, GATE = 6;
    private static final int KINDS = 7, DEEPEST_KIND = 3;
    private static final int[] KIND_ABOVE = {NONE, PLAIN, PLAIN, JUMP, LOAD, PLAIN, CALL};
    private static final char[] KIND_SIGNS = {'p', 'j', 'l', 'c', 's', 't', 'g'};

    /** How many states a tree's bits have, by how many bits they are: untested, 0 or 1 each. */
    private static final int[] POWERS_OF_3 = {1, 3, 9, 27, 81, 243, 729};

    private final Forms forms;
    private final Meanings meanings;
    private final Trees trees;
    private final Bytes tape;
    private final Bytes line = new Bytes(LINE_BYTES);
    private final TextReader texts;
    private final LineReader lines;
    private final Deeds now;
    private final Walk walker;
    private final Deeds kept = new Deeds();
    private int keptForms = NONE;
    private final Deeds[] past = new Deeds[PAST];
    private int pastFirst = 0;
    private int pastCount = 0;
    private final int[] refusals = new int[3];

    public DecoderForge() {
        Forms ownForms = new Forms();
        Meanings ownMeanings = new Meanings(ownForms);
        Bytes ownTape = new Bytes(TAPE_BYTES);
        Deeds ownDeeds = new Deeds();
        forms = ownForms;
        meanings = ownMeanings;
        tape = ownTape;
        now = ownDeeds;
        trees = new Trees(ownForms);
        texts = new TextReader(ownTape, ownForms);
        lines = new LineReader(ownTape, ownForms, ownMeanings);
        walker = new Walk(ownForms, ownMeanings, ownDeeds);
        for (int i = 0; i < PAST; i++) {
            past[i] = new Deeds();
        }
    }

    // ---- texts, forms

    public int feed(long bytes, int n) {
        if (!within(n, 1, 8)) {
            return refuse(BAD);
        }
        if (n > TAPE_BYTES - tape.length) {
            return refuse(FULL);
        }
        for (int i = 0; i < n; i++) {
            tape.add((int) (bytes >>> (8 * i)) & 255);
        }
        return tape.length;
    }

    public int wipe() {
        int had = tape.length;
        tape.length = 0;
        return had;
    }

    public int text() {
        int fault = texts.fault();
        tape.length = 0;
        if (fault != NONE) {
            return -10 - fault;
        }
        pastCount = 0;
        meanings.forget();
        return forms.count;
    }

    public int formOf(int form, int what) {
        if (!forms.has(form)) {
            return refuse(BAD);
        }
        Form f = forms.row[form];
        switch (what) {
            case 0: return f.kind;
            case 1: return f.mask;
            case 2: return f.value;
            case 3: return f.fieldCount;
            case 4: return f.ruleCount;
            case 5: return lettersIn(f.name);
            default: return refuse(BAD);
        }
    }

    public int named(int a, int b, int c) {
        boolean letters = within(a, 0, 25) && within(b, NONE, 25) && within(c, NONE, 25);
        if (!letters || (b == NONE && c != NONE)) {
            return refuse(BAD);
        }
        int name = withLetter(withLetter(withLetter(0, a), b), c);
        return forms.find(name, forms.count);
    }

    public int ofKind(int kind) {
        if (!within(kind, 0, KINDS - 1)) {
            return refuse(BAD);
        }
        int set = 0;
        for (int i = 0; i < forms.count; i++) {
            if (isUnder(forms.row[i].kind, kind)) {
                set |= 1 << i;
            }
        }
        return set;
    }

    // ---- what words mean

    public int means(int word) {
        if (!isWord(word)) {
            return refuse(BAD);
        }
        int meaning = meanings.meaningOf(word);
        if (meaning == NO_FORM) {
            return NONE;
        }
        return meaning == SEVERAL ? MIXED : meaning;
    }

    public int fits(int word) {
        return isWord(word) ? meanings.fittingOf(word) : refuse(BAD);
    }

    public int over(int form, int other) {
        if (!forms.has(form) || !forms.has(other) || form == other) {
            return refuse(BAD);
        }
        return forms.row[form].isOver(forms.row[other]) ? 1 : 0;
    }

    public int many(int form) {
        if (!isMeaning(form)) {
            return refuse(BAD);
        }
        meanings.goThrough();
        return meanings.wordsOf[form];
    }

    public long covers(int form, int p) {
        if (!forms.has(form) || !within(p, 0, 63)) {
            return 0;
        }
        long set = 0;
        for (int i = 0; i < 64; i++) {
            if (meanings.meaningOf(64 * p + i) == form) {
                set |= 1L << i;
            }
        }
        return set;
    }

    public int next(int form, int above) {
        if (!isMeaning(form) || !within(above, -1, WORDS - 1)) {
            return refuse(BAD);
        }
        for (int word = above + 1; word < WORDS; word++) {
            if (meanings.meaningOf(word) == form) {
                return word;
            }
        }
        return NONE;
    }

    public int clash(int i, int what) {
        if (i < 0 || !within(what, 0, 1)) {
            return refuse(BAD);
        }
        meanings.goThrough();
        int pair = meanings.clashingPair(i);
        if (pair == NONE) {
            return NONE;
        }
        return what == 0 ? pair : meanings.witness[pair];
    }

    public int odd(int what) {
        if (!within(what, 0, 2)) {
            return refuse(BAD);
        }
        if (what == 1) {
            return forms.twins();
        }
        meanings.goThrough();
        return what == 0 ? meanings.deadForms() : meanings.clashes;
    }

    // ---- trees

    public int greedy(int t, int what) {
        if (!isTreeSet(t) || !within(what, 0, 3)) {
            return refuse(BAD);
        }
        trees.growGreedy(t);
        switch (what) {
            case 0: return trees.tests;
            case 1: return trees.longest;
            case 2: return trees.first;
            default: return trees.crowd;
        }
    }

    public int least(int t, int what) {
        if (!isTreeSet(t) || !within(what, 0, 1)) {
            return refuse(BAD);
        }
        trees.growLeast(t);
        return what == 0 ? trees.tests : trees.first;
    }

    public int leaf(int t, int word) {
        if (!isTreeSet(t) || !isWord(word)) {
            return refuse(BAD);
        }
        return trees.candidatesFor(t, word);
    }

    // ---- fields, lines

    public int field(int form, int letter, int what) {
        if (!forms.has(form) || !isLetter(letter) || !within(what, 0, 2)) {
            return refuse(BAD);
        }
        Form f = forms.row[form];
        Field told = f.fields[letter];
        if (told.width == 0) {
            return NONE;
        }
        switch (what) {
            case 0: return told.width;
            case 1: return told.bits;
            default: return f.placeOf(letter);
        }
    }

    public int taken(int form, int letter, int word) {
        if (!hasField(form, letter) || !isWord(word)) {
            return refuse(BAD);
        }
        return forms.row[form].fields[letter].numberIn(word);
    }

    public int laid(int form, int letter, int word, int v) {
        if (!hasField(form, letter) || !isWord(word)) {
            return refuse(BAD);
        }
        Field told = forms.row[form].fields[letter];
        return told.canHold(v) ? told.putInto(word, v) : refuse(BAD);
    }

    public int hold(int letter, int v) {
        if (!isLetter(letter) || !within(v, -128, 255)) {
            return refuse(BAD);
        }
        remember();
        int held = now.hand[letter];
        now.hand[letter] = v;
        return held;
    }

    public int make(int form) {
        if (!forms.has(form)) {
            return refuse(BAD);
        }
        int word = forms.row[form].madeOf(now.hand);
        if (word == NONE) {
            return refuse(BAD);
        }
        return meanings.meaningOf(word) == form ? word : refuse(STATE);
    }

    public int write(int word) {
        if (!isWord(word)) {
            return refuse(BAD);
        }
        int meaning = meanings.meaningOf(word);
        line.length = 0;
        if (forms.has(meaning)) {
            writeForm(forms.row[meaning], word);
        } else {
            line.add(meaning == NO_FORM ? '?' : '!');
            line.addNumber(word);
        }
        return line.length;
    }

    public int written(int i) {
        return line.at(i);
    }

    public int read() {
        int answer = lines.wordOrFault();
        tape.length = 0;
        return answer;
    }

    // ---- the store

    public int put(int cell, int word) {
        if (!isCell(cell) || !isWord(word)) {
            return refuse(BAD);
        }
        remember();
        int was = now.cells[cell];
        now.cells[cell] = word;
        return was;
    }

    public int cell(int cell) {
        return isCell(cell) ? now.cells[cell] : refuse(BAD);
    }

    public int copy(int from, int to, int n) {
        if (!isCell(from) || !isCell(to) || n < 0 || n > CELLS - from || n > CELLS - to) {
            return refuse(BAD);
        }
        remember();
        // arraycopy answers as if by way of a row between, so cells that overlap come as they were
        System.arraycopy(now.cells, from, now.cells, to, n);
        return n;
    }

    public int holders(int form) {
        if (!isMeaning(form)) {
            return refuse(BAD);
        }
        int set = 0;
        for (int i = 0; i < CELLS; i++) {
            if (meanings.meaningOf(now.cells[i]) == form) {
                set |= 1 << i;
            }
        }
        return set;
    }

    public int walk(int cell, int n, int what) {
        if (!isCell(cell) || !within(n, 0, MOST_STEPS) || !within(what, 0, 4)) {
            return refuse(BAD);
        }
        walker.startAt(cell);
        boolean going = true;
        for (int i = 0; i < n && going; i++) {
            going = walker.stepOn();
        }
        switch (what) {
            case 0: return walker.cell;
            case 1: return walker.steps;
            case 2: return walker.costs;
            case 3: return walker.returnCount;
            default: return walker.cellsLeft;
        }
    }

    public int halts(int cell) {
        if (!isCell(cell)) {
            return refuse(BAD);
        }
        walker.startAt(cell);
        // one try more than steps: it may also halt behind the last one
        for (int i = 0; i <= MOST_STEPS; i++) {
            if (!walker.stepOn()) {
                return i;
            }
        }
        return NONE;
    }

    public int run(int cell, int n) {
        if (!isCell(cell) || !within(n, 1, MOST_STEPS)) {
            return refuse(BAD);
        }
        remember();
        walker.startAt(cell);
        for (int i = 0; i < n; i++) {
            int word = now.cells[walker.cell];
            if (!walker.stepOn()) {
                break;
            }
            now.meet(word);
        }
        return now.metCount;
    }

    public int met(int word) {
        if (!isWord(word)) {
            return refuse(BAD);
        }
        return now.hasMet(word) ? 1 : 0;
    }

    public int order(int i) {
        return i >= 0 && i < now.metCount ? now.met[i] : NONE;
    }

    public int costs(int word) {
        if (!isWord(word)) {
            return refuse(BAD);
        }
        int meaning = meanings.meaningOf(word);
        return forms.has(meaning) ? forms.row[meaning].costOf(word) : 0;
    }

    // ---- back, what is told

    public int undo() {
        if (pastCount == 0) {
            return refuse(STATE);
        }
        pastCount--;
        now.become(past[(pastFirst + pastCount) % PAST]);
        return pastCount;
    }

    public int image() {
        kept.become(now);
        keptForms = forms.count;
        return keptForms;
    }

    public int back() {
        if (keptForms == NONE) {
            return refuse(STATE);
        }
        now.become(kept);
        // forms only ever come behind others, so those that were kept are still the first ones
        forms.count = keptForms;
        pastCount = 0;
        meanings.forget();
        return keptForms;
    }

    public int count(int what) {
        switch (what) {
            case 0: return forms.count;
            case 1: return tape.length;
            case 2: return line.length;
            case 3: return pastCount;
            case 4: return now.metCount;
            default: return refuse(BAD);
        }
    }

    public int refused(int which) {
        return within(which, 0, 2) ? refusals[which] : refuse(BAD);
    }

    // ---- what several calls need

    private int refuse(int refusal) {
        int which = BAD - refusal;
        if (within(which, 0, 2)) {
            refusals[which]++;
        }
        return refusal;
    }

    private void remember() {
        if (pastCount == PAST) {
            pastFirst = (pastFirst + 1) % PAST;
            pastCount--;
        }
        past[(pastFirst + pastCount) % PAST].become(now);
        pastCount++;
    }

    private void writeForm(Form form, int word) {
        line.addName(form.name);
        for (int i = 0; i < form.fieldCount; i++) {
            line.add(' ');
            line.addNumber(form.fieldAt(i).numberIn(word));
        }
    }

    private boolean isMeaning(int form) {
        return forms.has(form) || form == NO_FORM || form == SEVERAL;
    }

    private boolean hasField(int form, int letter) {
        return forms.has(form) && isLetter(letter) && forms.row[form].fields[letter].width > 0;
    }

    private static boolean within(int number, int least, int most) {
        return number >= least && number <= most;
    }

    private static boolean isWord(int word) {
        return within(word, 0, WORDS - 1);
    }

    private static boolean isCell(int cell) {
        return within(cell, 0, CELLS - 1);
    }

    private static boolean isLetter(int letter) {
        return within(letter, 0, LETTERS - 1);
    }

    private static boolean isTreeSet(int t) {
        return isWord(t) && Integer.bitCount(t) <= TREE_BITS;
    }

    private static boolean isUnder(int kind, int above) {
        int at = kind;
        for (int i = 0; i < DEEPEST_KIND && at != above && within(at, 0, KINDS - 1); i++) {
            at = KIND_ABOVE[at];
        }
        return at == above;
    }

    private static int kindOf(int sign) {
        for (int i = 0; i < KINDS; i++) {
            if (KIND_SIGNS[i] == sign) {
                return i;
            }
        }
        return NONE;
    }

    private static int letterOf(int sign) {
        if (sign >= 'w' && sign <= 'z') {
            return sign - 'w';
        }
        return sign >= 'W' && sign <= 'Z' ? sign - 'W' + FIRST_SIGNED : NONE;
    }

    private static boolean isDigit(int sign) {
        return sign >= '0' && sign <= '9';
    }

    /** Names are told as numbers, a byte for each sign, so that two names are one comparison. */
    private static int withSign(int name, int sign) {
        return name << 8 | sign;
    }

    private static int withLetter(int name, int letter) {
        return letter == NONE ? name : withSign(name, 'a' + letter);
    }

    private static int lettersIn(int name) {
        if (name >= 1 << 16) {
            return 3;
        }
        return name >= 1 << 8 ? 2 : 1;
    }

    /** THE TAPE, THE LINE: bytes one behind the other. */
    private static final class Bytes {
        private final int[] row;
        private int length = 0;

        private Bytes(int most) {
            row = new int[most];
        }

        private int at(int i) {
            return i >= 0 && i < length ? row[i] : NONE;
        }

        private void add(int sign) {
            if (length < row.length) {
                row[length] = sign;
                length++;
            }
        }

        private void addName(int name) {
            for (int shift = 16; shift >= 0; shift -= 8) {
                int sign = name >> shift & 255;
                if (sign != 0) {
                    add(sign);
                }
            }
        }

        private void addNumber(int number) {
            int rest = number;
            if (number < 0) {
                add('-');
                rest = -number;
            }
            for (int unit = 1000; unit > 0; unit /= 10) {
                if (rest >= unit || unit == 1) {
                    add('0' + rest / unit % 10);
                }
            }
        }
    }

    /** All bits of one letter in a form's pattern; without a bit the form has no such field. */
    private static final class Field {
        private final boolean signed;
        private final int[] places = new int[WIDEST];
        private int width = 0;
        private int bits = 0;

        private Field(boolean signed) {
            this.signed = signed;
        }

        private void clear() {
            width = 0;
            bits = 0;
        }

        private boolean addBit(int bit) {
            if (width >= WIDEST) {
                return false;
            }
            places[width] = bit;
            width++;
            bits |= 1 << bit;
            return true;
        }

        private boolean canHold(int number) {
            int lowest = signed ? -(1 << width) / 2 : 0;
            return number >= lowest && number < lowest + (1 << width);
        }

        private int numberIn(int word) {
            // two's complement: all bits above a field are as its highest one
            int number = signed && width > 0 ? -(word >> places[0] & 1) : 0;
            for (int i = 0; i < width; i++) {
                number = 2 * number + (word >> places[i] & 1);
            }
            return number;
        }

        private int putInto(int word, int number) {
            int answer = word & ~bits;
            for (int i = 0; i < width; i++) {
                answer |= (number >> (width - 1 - i) & 1) << places[i];
            }
            return answer;
        }
    }

    /** A form; one object serves one number of form again and again, as texts come and go back. */
    private static final class Form {
        private int kind = PLAIN;
        private int name = 0;
        private int mask = 0;
        private int value = 0;
        private final Field[] fields = new Field[LETTERS];
        private final int[] lettersInLine = new int[LETTERS];
        private int fieldCount = 0;
        private final int[] ruleSigns = new int[RULES];
        private final int[] ruleLetters = new int[RULES];
        private final int[] ruleNumbers = new int[RULES];
        private int ruleCount = 0;

        private Form() {
            for (int i = 0; i < LETTERS; i++) {
                fields[i] = new Field(i >= FIRST_SIGNED);
            }
        }

        private void clear() {
            name = 0;
            mask = 0;
            value = 0;
            fieldCount = 0;
            ruleCount = 0;
            for (int i = 0; i < LETTERS; i++) {
                fields[i].clear();
            }
        }

        /** Whether a sign may stand for a bit; bits come from the highest on. */
        private boolean addSign(int sign, int bit) {
            if (sign == '.') {
                return true;
            }
            if (sign == '0' || sign == '1') {
                mask |= 1 << bit;
                value |= (sign - '0') << bit;
                return true;
            }
            int letter = letterOf(sign);
            if (letter == NONE) {
                return false;
            }
            if (fields[letter].width == 0 && fieldCount < LETTERS) {
                lettersInLine[fieldCount] = letter;
                fieldCount++;
            }
            return fields[letter].addBit(bit);
        }

        /** A rule's number is the other field's letter, where its sign is less-than. */
        private void addRule(int letter, int sign, int number) {
            if (ruleCount < RULES) {
                ruleLetters[ruleCount] = letter;
                ruleSigns[ruleCount] = sign;
                ruleNumbers[ruleCount] = number;
                ruleCount++;
            }
        }

        private Field fieldAt(int place) {
            return fields[lettersInLine[place]];
        }

        private int placeOf(int letter) {
            for (int i = 0; i < fieldCount; i++) {
                if (lettersInLine[i] == letter) {
                    return i;
                }
            }
            return NONE;
        }

        private boolean isOver(Form other) {
            boolean more = (mask & other.mask) == other.mask && mask != other.mask;
            return more && (value & other.mask) == other.value;
        }

        private boolean isTwinOf(Form other) {
            return mask == other.mask && value == other.value;
        }

        private boolean doesFit(int word) {
            if ((word & mask) != value) {
                return false;
            }
            for (int i = 0; i < ruleCount; i++) {
                if (!holdsIn(word, i)) {
                    return false;
                }
            }
            return true;
        }

        private boolean holdsIn(int word, int rule) {
            int stands = fields[ruleLetters[rule]].numberIn(word);
            int number = ruleNumbers[rule];
            switch (ruleSigns[rule]) {
                case '#': return stands != number;
                case '/': return number > 0 && stands % number == 0;
                default: return number >= 0 && number < LETTERS
                        && stands < fields[number].numberIn(word);
            }
        }

        /** NONE, if a number can't stand in its field. */
        private int madeOf(int[] hand) {
            int word = value;
            for (int i = 0; i < fieldCount; i++) {
                int letter = lettersInLine[i];
                int number = letter < hand.length ? hand[letter] : 0;
                if (!fields[letter].canHold(number)) {
                    return NONE;
                }
                word = fields[letter].putInto(word, number);
            }
            return word;
        }

        private int firstIn(int word) {
            return fieldCount == 0 ? 0 : fieldAt(0).numberIn(word);
        }

        private int costOf(int word) {
            int plain = 1 + fieldCount;
            int jump = plain + 2;
            switch (kind) {
                case JUMP: return jump;
                case LOAD: return 3 * plain;
                case CALL: return 2 * jump;
                case STORE: return 3 * plain - 1;
                case TRAP: return 9;
                case GATE: return 2 * jump + Math.abs(firstIn(word));
                default: return plain;
            }
        }
    }

    /** The forms that count, and behind them rooms for those that a text brings. */
    private static final class Forms {
        private final Form[] row = new Form[FORMS];
        private int count = 0;

        private Forms() {
            for (int i = 0; i < FORMS; i++) {
                row[i] = new Form();
            }
        }

        private boolean has(int form) {
            return form >= 0 && form < count;
        }

        private int allOfThem() {
            return (1 << count) - 1;
        }

        private int find(int name, int below) {
            for (int i = 0; i < below && i < FORMS; i++) {
                if (row[i].name == name) {
                    return i;
                }
            }
            return NONE;
        }

        private int twins() {
            int pairs = 0;
            for (int a = 0; a < count; a++) {
                for (int b = a + 1; b < count; b++) {
                    if (row[a].isTwinOf(row[b])) {
                        pairs++;
                    }
                }
            }
            return pairs;
        }
    }

    /** Reads a text: each part answers whether it stands there, and place is the fault if not. */
    private static final class TextReader {
        private final Bytes tape;
        private final Forms forms;
        private int place = 0;
        private int formCount = 0;

        private TextReader(Bytes tape, Forms forms) {
            this.tape = tape;
            this.forms = forms;
        }

        /** NONE, if the tape is a text; its forms count only then. */
        private int fault() {
            place = 0;
            formCount = forms.count;
            for (int i = 0; i <= FORMS; i++) {
                if (!statement()) {
                    return place;
                }
                formCount++;
                if (place == tape.length) {
                    forms.count = formCount;
                    return NONE;
                }
                if (!sign(';')) {
                    return place;
                }
            }
            return place;
        }

        private boolean statement() {
            if (formCount >= FORMS) {
                return false;
            }
            Form form = forms.row[formCount];
            form.clear();
            return kind(form) && name(form) && sign(':') && pattern(form) && rules(form);
        }

        private boolean sign(int wanted) {
            if (tape.at(place) != wanted) {
                return false;
            }
            place++;
            return true;
        }

        private boolean kind(Form form) {
            form.kind = kindOf(tape.at(place));
            if (form.kind == NONE) {
                return false;
            }
            place++;
            return true;
        }

        private boolean name(Form form) {
            int name = 0;
            for (int i = 0; i < 3 && within(tape.at(place), 'a', 'z'); i++) {
                name = withSign(name, tape.at(place));
                place++;
            }
            if (name == 0 || forms.find(name, formCount) != NONE) {
                return false;
            }
            form.name = name;
            return true;
        }

        private boolean pattern(Form form) {
            for (int bit = BITS - 1; bit >= 0; bit--) {
                if (!form.addSign(tape.at(place), bit)) {
                    return false;
                }
                place++;
            }
            return true;
        }

        private boolean rules(Form form) {
            for (int i = 0; i < RULES && tape.at(place) == ','; i++) {
                place++;
                if (!rule(form)) {
                    return false;
                }
            }
            return true;
        }

        private boolean rule(Form form) {
            int letter = letterOf(tape.at(place));
            if (!letter(form)) {
                return false;
            }
            int sign = tape.at(place);
            if (sign != '#' && sign != '/' && sign != '<') {
                return false;
            }
            place++;
            int number = letterOf(tape.at(place));
            if (sign == '<') {
                if (!letter(form)) {
                    return false;
                }
            } else {
                number = sign == '#' ? number(0, 255) : number(2, 9);
                if (number == NONE) {
                    return false;
                }
            }
            form.addRule(letter, sign, number);
            return true;
        }

        private boolean letter(Form form) {
            int letter = letterOf(tape.at(place));
            if (letter == NONE || form.fields[letter].width == 0) {
                return false;
            }
            place++;
            return true;
        }

        /** NONE, if there is no such number; then place is where it should begin. */
        private int number(int least, int most) {
            int start = place;
            int number = 0;
            for (int i = 0; i < 3 && isDigit(tape.at(place)); i++) {
                number = 10 * number + tape.at(place) - '0';
                place++;
            }
            if (place == start || !within(number, least, most)) {
                place = start;
                return NONE;
            }
            return number;
        }
    }

    /** Reads a line; place is the fault where a part doesn't stand. */
    private static final class LineReader {
        private final Bytes tape;
        private final Forms forms;
        private final Meanings meanings;
        private int place = 0;
        private int word = 0;

        private LineReader(Bytes tape, Forms forms, Meanings meanings) {
            this.tape = tape;
            this.forms = forms;
            this.meanings = meanings;
        }

        private int wordOrFault() {
            place = 0;
            int number = formNamed();
            if (!forms.has(number) || !numbers(forms.row[number]) || place < tape.length) {
                return -10 - place;
            }
            if (meanings.meaningOf(word) != number) {
                return -10 - (tape.length + 1);
            }
            return word;
        }

        private int formNamed() {
            int name = 0;
            for (int i = 0; i < TAPE_BYTES && within(tape.at(place), 'a', 'z'); i++) {
                name = i < 3 ? withSign(name, tape.at(place)) : 0;
                place++;
            }
            return name == 0 ? NONE : forms.find(name, forms.count);
        }

        private boolean numbers(Form form) {
            word = form.value;
            for (int i = 0; i < form.fieldCount; i++) {
                if (tape.at(place) != ' ') {
                    return false;
                }
                place++;
                if (!number(form.fieldAt(i))) {
                    return false;
                }
            }
            return true;
        }

        private boolean number(Field field) {
            int start = place;
            boolean below = tape.at(place) == '-';
            if (below) {
                place++;
            }
            if (!isDigit(tape.at(place))) {
                return false;
            }
            int number = 0;
            for (int i = 0; i < 3 && isDigit(tape.at(place)); i++) {
                number = 10 * number + tape.at(place) - '0';
                place++;
            }
            if (below) {
                number = -number;
            }
            if (!field.canHold(number)) {
                place = start;
                return false;
            }
            word = field.putInto(word, number);
            return true;
        }
    }

    /** What words mean, found out word by word as it is asked for and kept until forms change. */
    private static final class Meanings {
        private final Forms forms;
        /** For each word 0, if it isn't known; else the forms that fit, and 1 + meaning above them. */
        private final int[] known = new int[WORDS];
        /** For each form the forms that it is over. */
        private final int[] overs = new int[FORMS];
        private boolean through = false;
        private final int[] wordsOf = new int[MEANINGS];
        /** For each form a the forms b above it that clash with it. */
        private final int[] clashing = new int[FORMS];
        /** For 16 a + b, where they clash, the least word that shows it. */
        private final int[] witness = new int[16 * FORMS];
        private int clashes = 0;

        private Meanings(Forms forms) {
            this.forms = forms;
        }

        private void forget() {
            Arrays.fill(known, 0);
            through = false;
            for (int a = 0; a < forms.count; a++) {
                overs[a] = 0;
                for (int b = 0; b < forms.count; b++) {
                    if (forms.row[a].isOver(forms.row[b])) {
                        overs[a] |= 1 << b;
                    }
                }
            }
        }

        private int fittingOf(int word) {
            return knownOf(word) & (WORDS - 1);
        }

        private int meaningOf(int word) {
            return (knownOf(word) >> FORMS) - 1;
        }

        private int knownOf(int word) {
            int at = word & (WORDS - 1);
            if (known[at] == 0) {
                int fitting = 0;
                for (int i = 0; i < forms.count; i++) {
                    if (forms.row[i].doesFit(at)) {
                        fitting |= 1 << i;
                    }
                }
                known[at] = (1 + meaningAmong(fitting)) << FORMS | fitting;
            }
            return known[at];
        }

        private int meaningAmong(int fitting) {
            if (fitting == 0) {
                return NO_FORM;
            }
            for (int i = 0; i < forms.count; i++) {
                int form = 1 << i;
                if ((fitting & form) != 0 && (fitting & ~form & ~overs[i]) == 0) {
                    return i;
                }
            }
            return SEVERAL;
        }

        /** Goes through all words once for all questions about all of them. */
        private void goThrough() {
            if (through) {
                return;
            }
            Arrays.fill(wordsOf, 0);
            Arrays.fill(clashing, 0);
            clashes = 0;
            for (int word = 0; word < WORDS; word++) {
                int meaning = meaningOf(word);
                if (within(meaning, 0, MEANINGS - 1)) {
                    wordsOf[meaning]++;
                }
                if (meaning == SEVERAL) {
                    noteClashes(word, fittingOf(word));
                }
            }
            through = true;
        }

        private void noteClashes(int word, int fitting) {
            for (int a = 0; a < forms.count; a++) {
                int fresh = (fitting >> a & 1) == 0 ? 0 : fitting & -(2 << a) & ~clashing[a];
                for (int b = a + 1; b < forms.count && fresh != 0; b++) {
                    if ((fresh >> b & 1) == 1) {
                        witness[16 * a + b] = word;
                        clashes++;
                    }
                }
                clashing[a] |= fresh;
            }
        }

        private int clashingPair(int i) {
            int left = i;
            for (int a = 0; a < forms.count && left < clashes; a++) {
                for (int b = a + 1; b < forms.count; b++) {
                    int one = clashing[a] >> b & 1;
                    if (one == 1 && left == 0) {
                        return 16 * a + b;
                    }
                    left -= one;
                }
            }
            return NONE;
        }

        private int deadForms() {
            int set = 0;
            for (int i = 0; i < forms.count; i++) {
                if (wordsOf[i] == 0) {
                    set |= 1 << i;
                }
            }
            return set;
        }
    }

    /** Trees that test bits, over the forms as candidates. */
    private static final class Trees {
        private final Forms forms;
        /** For each bit the forms that fix it as 1, as 0. */
        private final int[] ones = new int[BITS];
        private final int[] zeros = new int[BITS];
        private int tests = 0;
        private int longest = 0;
        private int crowd = 0;
        private int first = NONE;
        private final int[] places = new int[TREE_BITS];
        /** For each state of a tree's bits: a digit of base 3 each (untested, side 0, side 1). */
        private final int[] candidates = new int[TREE_STATES];
        private final int[] tested = new int[TREE_STATES];
        private final int[] fewest = new int[TREE_STATES];

        private Trees(Forms forms) {
            this.forms = forms;
        }

        private void lookAtForms() {
            for (int bit = 0; bit < BITS; bit++) {
                ones[bit] = 0;
                zeros[bit] = 0;
                for (int i = 0; i < forms.count; i++) {
                    Form form = forms.row[i];
                    ones[bit] |= (form.value >> bit & 1) << i;
                    zeros[bit] |= ((form.mask & ~form.value) >> bit & 1) << i;
                }
            }
        }

        private void growGreedy(int t) {
            lookAtForms();
            tests = 0;
            longest = 0;
            crowd = 0;
            first = greedyBit(t, forms.allOfThem());
            grow(this, t, forms.allOfThem(), 0);
        }

        private static void grow(Trees tree, int untested, int among, int depth) {
            int bit = depth < TREE_BITS ? tree.greedyBit(untested, among) : NONE;
            if (bit == NONE) {
                tree.longest = Math.max(tree.longest, depth);
                tree.crowd = Math.max(tree.crowd, Integer.bitCount(among));
                return;
            }
            tree.tests++;
            int rest = untested & ~(1 << bit);
            grow(tree, rest, among & ~tree.ones[bit], depth + 1);
            grow(tree, rest, among & ~tree.zeros[bit], depth + 1);
        }

        private int candidatesFor(int t, int word) {
            lookAtForms();
            int untested = t;
            int among = forms.allOfThem();
            for (int depth = 0; depth < TREE_BITS; depth++) {
                int bit = greedyBit(untested, among);
                if (bit == NONE) {
                    break;
                }
                untested &= ~(1 << bit);
                among &= (word >> bit & 1) == 0 ? ~ones[bit] : ~zeros[bit];
            }
            return among;
        }

        private boolean isUseful(int bit, int among) {
            return (among & (ones[bit] | zeros[bit])) != 0;
        }

        private int greedyBit(int untested, int among) {
            int best = NONE;
            int bestMore = 0;
            int bestSum = 0;
            for (int bit = BITS - 1; bit >= 0; bit--) {
                if ((untested >> bit & 1) == 0 || !isUseful(bit, among)) {
                    continue;
                }
                int side0 = Integer.bitCount(among & ~ones[bit]);
                int side1 = Integer.bitCount(among & ~zeros[bit]);
                int more = Math.max(side0, side1);
                int sum = side0 + side1;
                if (best == NONE || more < bestMore || (more == bestMore && sum < bestSum)) {
                    best = bit;
                    bestMore = more;
                    bestSum = sum;
                }
            }
            return best;
        }

        private void growLeast(int t) {
            lookAtForms();
            int bits = 0;
            for (int bit = BITS - 1; bit >= 0; bit--) {
                if ((t >> bit & 1) == 1 && bits < TREE_BITS) {
                    places[bits] = bit;
                    bits++;
                }
            }
            fillStates(bits);
            // the sides of a test are states of greater numbers, so those are known first
            for (int state = POWERS_OF_3[bits] - 1; state >= 0; state--) {
                chooseLeast(state, bits);
            }
            tests = fewest[0];
        }

        private void fillStates(int bits) {
            candidates[0] = forms.allOfThem();
            tested[0] = 0;
            for (int i = 0; i < bits; i++) {
                int power = POWERS_OF_3[i];
                int bit = places[i];
                for (int state = 0; state < power; state++) {
                    candidates[state + power] = candidates[state] & ~ones[bit];
                    candidates[state + 2 * power] = candidates[state] & ~zeros[bit];
                    tested[state + power] = tested[state] | 1 << bit;
                    tested[state + 2 * power] = tested[state] | 1 << bit;
                }
            }
        }

        /** Leaves the bit in first: the state chosen last is the whole tree. */
        private void chooseLeast(int state, int bits) {
            int best = 0;
            first = NONE;
            for (int i = 0; i < bits; i++) {
                int bit = places[i];
                if ((tested[state] >> bit & 1) == 1 || !isUseful(bit, candidates[state])) {
                    continue;
                }
                int power = POWERS_OF_3[i];
                int all = 1 + fewest[state + power] + fewest[state + 2 * power];
                if (first == NONE || all < best) {
                    first = bit;
                    best = all;
                }
            }
            fewest[state] = best;
        }
    }

    /** What put, hold, copy and run change. */
    private static final class Deeds {
        private final int[] cells = new int[CELLS];
        private final int[] hand = new int[LETTERS];
        private final int[] met = new int[MOST_MET];
        private int metCount = 0;

        private void become(Deeds other) {
            System.arraycopy(other.cells, 0, cells, 0, CELLS);
            System.arraycopy(other.hand, 0, hand, 0, LETTERS);
            System.arraycopy(other.met, 0, met, 0, MOST_MET);
            metCount = other.metCount;
        }

        private boolean hasMet(int word) {
            for (int i = 0; i < metCount; i++) {
                if (met[i] == word) {
                    return true;
                }
            }
            return false;
        }

        private void meet(int word) {
            if (hasMet(word)) {
                return;
            }
            if (metCount == MOST_MET) {
                metCount--;
                System.arraycopy(met, 1, met, 0, metCount);
            }
            met[metCount] = word;
            metCount++;
        }
    }

    /** One way through the store; it changes nothing in it. */
    private static final class Walk {
        private final Forms forms;
        private final Meanings meanings;
        private final Deeds now;
        private final int[] returns = new int[RETURNS];
        private int returnCount = 0;
        private int cell = 0;
        private int steps = 0;
        private int costs = 0;
        private int cellsLeft = 0;

        private Walk(Forms forms, Meanings meanings, Deeds now) {
            this.forms = forms;
            this.meanings = meanings;
            this.now = now;
        }

        private void startAt(int start) {
            cell = start & (CELLS - 1);
            returnCount = 0;
            steps = 0;
            costs = 0;
            cellsLeft = 0;
        }

        /** Whether a step was gone; if not, it halts where it is. */
        private boolean stepOn() {
            int word = now.cells[cell];
            int meaning = meanings.meaningOf(word);
            if (!forms.has(meaning)) {
                return false;
            }
            Form form = forms.row[meaning];
            if (form.kind == TRAP && returnCount == 0) {
                return false;
            }
            cellsLeft |= 1 << cell;
            costs += form.costOf(word);
            steps++;
            cell = cellBehind(form.kind, form.firstIn(word));
            return true;
        }

        private int cellBehind(int kind, int first) {
            int following = (cell + 1) & (CELLS - 1);
            int target = (cell + first) & (CELLS - 1);
            switch (kind) {
                case JUMP:
                    return target;
                case CALL:
                    keepReturn(following);
                    return target;
                case GATE:
                    if (first % 2 != 0) {
                        return following;
                    }
                    keepReturn(following);
                    return target;
                case TRAP:
                    return latestReturn();
                default:
                    return following;
            }
        }

        private void keepReturn(int following) {
            if (returnCount == RETURNS) {
                returnCount--;
                System.arraycopy(returns, 1, returns, 0, returnCount);
            }
            returns[returnCount] = following;
            returnCount++;
        }

        private int latestReturn() {
            if (returnCount == 0) {
                return cell;
            }
            returnCount--;
            return returns[returnCount];
        }
    }
}
