/** The sentences of promises 1 to 41, one test or more for each. */
final class SentencesOfPromises extends Sentences {
    private static final String DOTS = "............";

    // ---- texts, forms

    @Says("No FORMS.")
    static void p01_noForms() {
        DecoderForge x = new DecoderForge();
        due("how many", x.count(0), 0);
        for (int kind = 0; kind < 7; kind++) due("of kind " + kind, x.ofKind(kind), 0);
        for (int form = 0; form < 12; form++) due("form " + form, x.formOf(form, 0), BAD);
        due("words that mean none", x.many(12), 4096);
        due("names", x.named(0, NONE, NONE), NONE);
    }

    @Says("The n lowest bytes (1 to 8) of a number, the lowest first, come behind THE TAPE: how many it has. BAD; FULL.")
    static void p02_feed() {
        DecoderForge x = new DecoderForge();
        String s = "pa:01wwwwwwww..";
        int fed = 0;
        for (int n = 1; fed + n <= s.length(); n++) {
            long bytes = -1;
            for (int k = n - 1; k >= 0; k--) bytes = bytes << 8 | s.charAt(fed + k);
            fed += n;
            due("feed of " + n, x.feed(bytes, n), fed);
        }
        due("all of it", fed, s.length());
        due("it is what was fed", x.text(), 1);
        due("in its order", x.formOf(0, 2), 0x400);
        due("BAD", x.feed(0, 0), BAD);
        due("BAD", x.feed(0, 9), BAD);
        for (int i = 1; i <= 25; i++) due("eight more", x.feed(Long.MIN_VALUE, 8), 8 * i);
        due("FULL", x.feed(0, 1), FULL);
        due("as it was", x.count(1), 200);
    }

    @Says("THE TAPE is empty then: how many it had.")
    static void p03_wipe() {
        DecoderForge x = feed(new DecoderForge(), "pa:01");
        due("had", x.wipe(), 5);
        due("has", x.count(1), 0);
        due("had", x.wipe(), 0);
        due("what was wiped is no more", text(x, "pa:" + DOTS), 1);
    }

    @Says("THE TAPE, which is empty then, is a TEXT: how many FORMS there are; -10 less its FAULT (no REFUSAL).")
    static void p04_text() {
        DecoderForge x = new DecoderForge();
        due("the code", text(x, CODE), 8);
        due("empty", x.count(1), 0);
        due("one more", text(x, "pmy:" + DOTS), 9);
        due("a fault", text(x, "pmy:" + DOTS), -10 - 3);
        due("empty", x.count(1), 0);
        due("an empty one", x.text(), -10);
        due("a fault behind the last place", text(x, "pzzz:" + DOTS + ","), -10 - 18);
        for (int which = 0; which < 3; which++) due("no REFUSAL", x.refused(which), 0);
        due("as many as there were", x.count(0), 9);
    }

    @Says("Of a FORM: 0 KIND, 1 MASK, 2 VALUE, 3 how many FIELDS, 4 how many RULES, 5 how many letters its NAME has. BAD.")
    static void p05_formOf() {
        DecoderForge x = with(CODE);
        int[][] rows = {{0, 0xFFF, 0, 0, 0, 3}, {1, 0xC00, 0x400, 1, 0, 2}, {2, 0xF00, 0x200, 2, 1, 3}, {3, 0xF00, 0x300, 1, 0, 2},
            {4, 0xF00, 0x800, 2, 1, 3}, {5, 0xF80, 0xF00, 0, 0, 3}, {6, 0xF00, 0x900, 2, 1, 3}, {0, 0x800, 0x800, 0, 0, 3}};
        for (int form = 0; form < 8; form++) {
            for (int what = 0; what < 6; what++) due("formOf(" + form + ", " + what + ")", x.formOf(form, what), rows[form][what]);
        }
        due("one letter", with(CROWD).formOf(0, 5), 1);
        due("BAD form", x.formOf(8, 0), BAD);
        due("BAD what", x.formOf(0, 6), BAD);
        due("BAD what", x.formOf(0, -1), BAD);
    }

    @Says("The FORM with a NAME of three letters (0: a to 25: z; NONE: no letter there; the first is one), in that order; NONE: there is "
        + "none. BAD: letters, also one behind none.")
    static void p06_named() {
        DecoderForge x = with("pz:" + DOTS + ";pza:" + DOTS + ";pzaz:" + DOTS + ";paz:" + DOTS);
        due("z", x.named(25, NONE, NONE), 0);
        due("za", x.named(25, 0, NONE), 1);
        due("zaz", x.named(25, 0, 25), 2);
        due("az", x.named(0, 25, NONE), 3);
        due("a", x.named(0, NONE, NONE), NONE);
        due("zz", x.named(25, 25, NONE), NONE);
        due("the first is no letter", x.named(NONE, 0, 0), BAD);
        due("no such letter", x.named(26, NONE, NONE), BAD);
        due("no such letter", x.named(25, 26, NONE), BAD);
        due("no such letter", x.named(25, 0, -2), BAD);
        due("one behind none", x.named(25, NONE, 25), BAD);
    }

    @Says("FORMS (a set) of a KIND or of one under it. BAD.")
    static void p07_ofKind() {
        DecoderForge x = with(CODE);
        int[] sets = {0xFF, 1 << BR | 1 << FN | 1 << SEL, 1 << GET | 1 << PUT, 1 << FN | 1 << SEL, 1 << PUT, 1 << RET, 1 << SEL};
        for (int kind = 0; kind < 7; kind++) due("kind " + kind, x.ofKind(kind), sets[kind]);
        due("BAD", x.ofKind(7), BAD);
        due("BAD", x.ofKind(-1), BAD);
    }

    // ---- what words mean

    @Says("Which FORM a WORD MEANS; NONE, MIXED. BAD.")
    static void p08_means() {
        Asked a = new Asked("pa:............;pb:0...........;pc:.0..........;pd:00.........x,x#1");
        for (int word = 0; word < 4096; word++) {
            int high = word >> 10;
            int due = high == 3 ? 0 : high == 2 ? 2 : high == 1 ? 1 : word % 2 == 0 ? 3 : MIXED;
            due("means(" + word + ")", a.x().means(word), due);
        }
        DecoderForge x = new DecoderForge();
        due("NONE", x.means(0), NONE);
        due("BAD", x.means(-1), BAD);
        due("BAD", x.means(4096), BAD);
    }

    @Says("FORMS (a set) that FIT a WORD. BAD.")
    static void p09_fits() {
        Asked a = new Asked(CODE);
        int[] together = {1 << NOP, 1 << BR, 1 << GET, 1 << FN, 1 << PUT | 1 << ANY, 1 << RET | 1 << ANY, 1 << SEL | 1 << ANY, 1 << ANY};
        for (int word = 0; word < 4096; word++) {
            due("fits(" + word + ")", a.x().fits(word), inCode(word) == NONE ? 0 : together[inCode(word)]);
        }
        due("BAD", a.x().fits(4096), BAD);
        due("BAD", a.x().fits(-1), BAD);
    }

    @Says("Whether a FORM is OVER another one (1, 0). BAD: also one and the same.")
    static void p10_over() {
        DecoderForge x = with(CODE);
        for (int a = 0; a < 8; a++) {
            for (int b = 0; b < 8; b++) {
                boolean over = b == ANY && (a == PUT || a == RET || a == SEL);
                due(a + " over " + b, x.over(a, b), a == b ? BAD : over ? 1 : 0);
            }
        }
        due("no such form", x.over(8, 0), BAD);
        due("no such other one", x.over(0, 8), BAD);
    }

    @Says("How many WORDS MEAN a FORM (12: NONE; 13: MIXED). BAD.")
    static void p11_many() {
        DecoderForge x = with(CODE);
        int[] words = {1, 1024, 240, 256, 120, 128, 96, 1704, BAD, BAD, BAD, BAD, 527, 0, BAD};
        for (int form = 0; form < 15; form++) due("many(" + form + ") of the code", x.many(form), words[form]);
        DecoderForge y = with(CROWD);
        int[] others = {512, 0, 480, 512, 0, BAD, BAD, BAD, BAD, BAD, BAD, BAD, 2048, 544, BAD};
        for (int form = 0; form < 15; form++) due("many(" + form + ") of the crowd", y.many(form), others[form]);
        due("BAD", x.many(-1), BAD);
    }

    @Says("Which of the WORDS 64 p, 64 p + 1, .. (64 of them; p 0 to 63) MEAN a FORM, as a set (BIT 0: the first one); 0: no such FORM, p "
        + "(nothing is refused).")
    static void p12_covers() {
        Asked a = new Asked(CODE);
        for (int form = 0; form < 8; form++) {
            for (int p = 0; p < 64; p++) {
                long due = 0;
                for (int word = 64 * p + 63; word >= 64 * p; word--) due = 2 * due + (inCode(word) == form ? 1 : 0);
                due("covers(" + form + ", " + p + ")", a.x().covers(form, p), due);
            }
        }
        DecoderForge x = with(CODE);
        due("no such FORM", x.covers(8, 0), 0);
        due("NONE is no FORM", x.covers(12, 0), 0);
        due("MIXED is no FORM", x.covers(13, 0), 0);
        due("no such p", x.covers(1, 64), 0);
        due("no such p", x.covers(1, -1), 0);
        due("nothing is refused", x.refused(0), 0);
    }

    @Says("The least WORD that MEANS a FORM (12: NONE; 13: MIXED) and is above a told one (-1 to 4095); NONE. BAD.")
    static void p13_next() {
        DecoderForge x = with(CODE);
        int[] puts = new int[120];
        int found = 0;
        for (int word = 0x800; word < 0x900; word++) {
            if (putsW(word) < putsY(word)) puts[found++] = word;
        }
        due("reckoned", found, 120);
        int at = -1;
        for (int i = 0; i < 120; i++) {
            at = x.next(PUT, at);
            due("put " + i, at, puts[i]);
        }
        due("no more", x.next(PUT, at), NONE);
        due("NONE behind get's last", x.next(12, 0x2EF), 0x2F0);
        due("no MIXED", x.next(13, -1), NONE);
        due("above the last", x.next(ANY, 4095), NONE);
        due("the last", x.next(ANY, 4094), 4095);
        due("MIXED", with(CROWD).next(13, 0x1FF), 0x330);
        due("BAD form", x.next(8, 0), BAD);
        due("BAD form", x.next(14, 0), BAD);
        due("BAD word", x.next(0, -2), BAD);
        due("BAD word", x.next(0, 4096), BAD);
    }

    @Says("The i-th of CLASHES (from 0): what 0 16 times a and b, 1 the WITNESS; NONE: there are not as many. BAD: i below 0, what.")
    static void p14_clash() {
        // all 66 pairs of 12 twins clash in the least word that they fit
        DecoderForge x = with(alike(12, 'p', ".1.........."));
        int i = 0;
        for (int a = 0; a < 12; a++) {
            for (int b = a + 1; b < 12; b++) {
                due("pair " + i, x.clash(i, 0), 16 * a + b);
                due("witness " + i, x.clash(i, 1), 0x400);
                i++;
            }
        }
        due("how many", i, 66);
        due("not as many", x.clash(66, 0), NONE);
        due("not as many", x.clash(MOST, 1), NONE);
        due("BAD", x.clash(-1, 0), BAD);
        due("BAD", x.clash(0, 2), BAD);
        due("BAD", x.clash(0, -1), BAD);
    }

    @Says("DEAD (what 0, a set), TWINS (1), how many CLASHES there are (2). BAD.")
    static void p15_odd() {
        int[][] due = {{0, 0, 0}, {0x12, 1, 6}, {0xFFF, 66, 66}};
        String[] texts = {CODE, CROWD, alike(12, 'p', ".1..........")};
        for (int i = 0; i < 3; i++) {
            DecoderForge x = with(texts[i]);
            for (int what = 0; what < 3; what++) due("odd(" + what + ") of " + i, x.odd(what), due[i][what]);
            due("BAD", x.odd(3), BAD);
            due("BAD", x.odd(-1), BAD);
        }
    }

    // ---- trees

    @Says("GREEDY by T: what 0 how many TESTS in all, 1 how many at most on one way, 2 the BIT that is tested first (NONE: a LEAF), 3 the "
        + "most CANDIDATES in a LEAF. BAD: T (more than 6 BITS, too), what.")
    static void p16_greedy() {
        int[] crowd = {4, 3, 11, 5};
        int[] none = {0, 0, NONE, 5};
        DecoderForge x = with(CROWD);
        for (int what = 0; what < 4; what++) {
            due("by 0xB00, " + what, x.greedy(0xB00, what), crowd[what]);
            due("by nothing, " + what, x.greedy(0, what), none[what]);
            due("by free bits, " + what, x.greedy(0x40F, what), none[what]);
        }
        // BIT 11 parts 4 and 4, BIT 10 6 and 3; below 11 BIT 10 parts nop get fn, br and put sel any, ret any
        int[] code = {3, 2, 11, 3};
        DecoderForge y = with(CODE);
        for (int what = 0; what < 4; what++) due("the code by 0xC00, " + what, y.greedy(0xC00, what), code[what]);
        due("7 BITS", y.greedy(0x07F, 0), BAD);
        due("no set of BITS", y.greedy(4096, 0), BAD);
        due("no set of BITS", y.greedy(-1, 0), BAD);
        due("what", y.greedy(0, 4), BAD);
        due("what", y.greedy(0, -1), BAD);
    }

    @Says("LEAST by T: how many TESTS in all (what 0), the BIT that such a TREE tests first, of several the highest (1; NONE: a LEAF). BAD.")
    static void p17_least() {
        DecoderForge x = with("pa:..0........0;pb:..1........1");
        // two bits that do the same: 1 and 2 below it, whichever is first
        due("tests", x.least(0x201, 0), 3);
        due("of several the highest", x.least(0x201, 1), 9);
        due("one alone", x.least(0x001, 1), 0);
        due("a LEAF", x.least(0x400, 0), 0);
        due("a LEAF", x.least(0x400, 1), NONE);
        DecoderForge y = with("pa:" + DOTS + ";pb:01..........;pc:00..........");
        due("tests", y.least(0xC00, 0), 2);
        due("the first", y.least(0xC00, 1), 11);
        due("BAD", y.least(0xFE0, 0), BAD);
        due("BAD", y.least(0xC00, 2), BAD);
        due("BAD", y.least(-1, 0), BAD);
    }

    @Says("CANDIDATES (a set) in the LEAF of GREEDY by T to which a WORD comes. BAD.")
    static void p18_leaf() {
        DecoderForge x = with(CROWD);
        for (int high = 0; high < 16; high++) {
            int word = 256 * high + 77;
            int nine = high >> 1 & 1;
            int due = high >= 8 ? 0 : high % 2 == 0 ? 8 + nine : 2 + 8 + 16 + 5 * nine;
            due("leaf of " + word, x.leaf(0xB00, word), due);
        }
        due("BAD", x.leaf(0xFE0, 0), BAD);
        due("BAD", x.leaf(0xB00, 4096), BAD);
        due("BAD", x.leaf(0xB00, -1), BAD);
    }

    // ---- fields, lines

    @Says("Of a FIELD of a FORM (letter 0 to 7: w x y z W X Y Z): what 0 how many BITS it has, 1 its BITS (a set), 2 its place among the "
        + "FIELDS of a LINE. NONE: there is none. BAD.")
    static void p19_field() {
        DecoderForge x = with("pa:ZZYYXXWWzyxw;pb:wwxxyyzzWXYZ");
        int[][] first = {{1, 0x001, 7}, {1, 0x002, 6}, {1, 0x004, 5}, {1, 0x008, 4}, {2, 0x030, 3}, {2, 0x0C0, 2}, {2, 0x300, 1}, {2, 0xC00, 0}};
        int[][] second = {{2, 0xC00, 0}, {2, 0x300, 1}, {2, 0x0C0, 2}, {2, 0x030, 3}, {1, 0x008, 4}, {1, 0x004, 5}, {1, 0x002, 6}, {1, 0x001, 7}};
        for (int letter = 0; letter < 8; letter++) {
            for (int what = 0; what < 3; what++) {
                due("field(0, " + letter + ", " + what + ")", x.field(0, letter, what), first[letter][what]);
                due("field(1, " + letter + ", " + what + ")", x.field(1, letter, what), second[letter][what]);
            }
        }
        DecoderForge y = with(CODE);
        for (int letter = 0; letter < 8; letter++) due("NONE", y.field(NOP, letter, 0), NONE);
        due("put's y is ahead", y.field(PUT, 2, 2), 0);
        due("put's w is behind", y.field(PUT, 0, 2), 1);
        due("BAD form", y.field(8, 0, 0), BAD);
        due("BAD letter", y.field(0, 8, 0), BAD);
        due("BAD what", y.field(0, 0, 3), BAD);
    }

    @Says("What stands in a FIELD of a WORD (whether the FORM FITS it or not). BAD: also no such FIELD.")
    static void p20_taken() {
        Asked a = new Asked(CODE);
        for (int word = 5; word < 4096; word += 13) {
            int y = word >> 4 & 15;
            due("get's x in " + word, a.x().taken(GET, 1, word), y);
            due("sel's Y in " + word, a.x().taken(SEL, 6, word), y < 8 ? y : y - 16);
            due("put's y in " + word, a.x().taken(PUT, 2, word), putsY(word));
            due("put's w in " + word, a.x().taken(PUT, 0, word), putsW(word));
            due("fn's Z in " + word, a.x().taken(FN, 7, word), (byte) word);
        }
        due("no such FIELD", a.x().taken(GET, 0, 0), BAD);
        due("no such FORM", a.x().taken(8, 0, 0), BAD);
        due("no such letter", a.x().taken(GET, 8, 0), BAD);
        due("no such WORD", a.x().taken(GET, 1, 4096), BAD);
    }

    @Says("The WORD with v standing in a FIELD, else as it is. BAD: also no such FIELD, v that can't stand in it.")
    static void p21_laid() {
        Asked a = new Asked(CODE);
        for (int word = 0; word < 4096; word += 273) {
            for (int v = -9; v < 17; v++) {
                boolean plain = v >= 0 && v < 16;
                boolean signed = v >= -8 && v < 8;
                due(v + " as get's x in " + word, a.x().laid(GET, 1, word, v), plain ? (word & 0xF0F) + 16 * v : BAD);
                due(v + " as sel's Y in " + word, a.x().laid(SEL, 6, word, v), signed ? (word & 0xF0F) + 16 * ((v + 16) % 16) : BAD);
            }
        }
        due("y 5 of put", a.x().laid(PUT, 2, 0xFFF, 5), 0xF55 + 0x022);
        due("no such FIELD", a.x().laid(GET, 0, 0, 0), BAD);
        due("no such FORM", a.x().laid(-1, 0, 0, 0), BAD);
        due("no such WORD", a.x().laid(GET, 1, -1, 0), BAD);
        due("far off", a.x().laid(GET, 1, 0, LEAST), BAD);
        due("far off", a.x().laid(FN, 7, 0, MOST), BAD);
    }

    @Says("THE HAND holds v (-128 to 255) for a letter (0 to 7): what it held. BAD.")
    static void p22_hold() {
        DecoderForge x = new DecoderForge();
        for (int letter = 0; letter < 8; letter++) {
            due("at first", x.hold(letter, -128), 0);
            due("then", x.hold(letter, 255), -128);
            due("then", x.hold(letter, letter), 255);
        }
        for (int letter = 0; letter < 8; letter++) due("each its own", x.hold(letter, 0), letter);
        due("BAD letter", x.hold(8, 0), BAD);
        due("BAD letter", x.hold(-1, 0), BAD);
        due("BAD v", x.hold(0, 256), BAD);
        due("BAD v", x.hold(0, -129), BAD);
        due("still held", x.hold(0, 0), 0);
    }

    @Says("A WORD of a FORM is MADE. BAD: no such FORM, a number that can't stand in its FIELD. STATE: it doesn't MEAN that FORM.")
    static void p23_make() {
        DecoderForge x = with(CODE);
        x.hold(1, 14);
        x.hold(2, 9);
        due("get 14 9", x.make(GET), 0x2E9);
        due("put 9 0", x.make(PUT), 0x882);
        x.hold(1, 15);
        due("get 15 9 means none", x.make(GET), STATE);
        x.hold(1, 16);
        due("16 can't stand", x.make(GET), BAD);
        x.hold(0, 9);
        due("put 9 9 is any", x.make(PUT), STATE);
        due("nop", x.make(NOP), 0);
        due("any", x.make(ANY), 0x800);
        due("no such FORM", x.make(8), BAD);
        due("no such FORM", x.make(12), BAD);
        due("nothing to take back but what was held", x.count(3), 5);
    }

    @Says("The LINE of a WORD is written: how many bytes it has. BAD.")
    static void p24_write() {
        DecoderForge x = with(CODE);
        due("nop", x.write(0), 3);
        due("br -32", x.write(0x600), 6);
        due("get 1 2", x.write(0x212), 7);
        due("?511", x.write(511), 4);
        due("BAD", x.write(4096), BAD);
        due("still ?511", x.written(0), '?');
        due("still 4 bytes", x.count(2), 4);
        due("abc -16 -16 -1 0", with("pabc:WWWWWXXXXXYZ").write(0x842), 16);
    }

    @Says("The i-th byte of the LINE written latest; NONE: there is none such.")
    static void p25_written() {
        DecoderForge x = with(CODE);
        due("none was written", x.written(0), NONE);
        x.write(0x98F);
        String line = "sel -8 15";
        for (int i = 0; i < line.length(); i++) due("byte " + i, x.written(i), line.charAt(i));
        due("behind the last", x.written(line.length()), NONE);
        due("ahead of the first", x.written(-1), NONE);
        x.write(0);
        due("of the latest", x.written(0), 'n');
        due("behind its last", x.written(3), NONE);
        due("nothing is refused", x.refused(0), 0);
    }

    @Says("THE TAPE, which is empty then, is a LINE: the WORD; -10 less its FAULT (no REFUSAL).")
    static void p26_read() {
        DecoderForge x = with(CODE);
        due("sel -8 15", read(x, "sel -8 15"), 0x98F);
        due("empty", x.count(1), 0);
        due("a fault", read(x, "sel -9 15"), -10 - 4);
        due("empty", x.count(1), 0);
        due("an empty one", x.read(), -10);
        due("none that means it", read(x, "sel -8 14"), -10 - 10);
        for (int which = 0; which < 3; which++) due("no REFUSAL", x.refused(which), 0);
    }

    @Says("THE TAPE, which is empty then, is a LINE: the WORD; -10 less its FAULT (no REFUSAL).")
    static void p26_whatIsWrittenIsRead() {
        for (int word = 0; word < 4096; word += 7) {
            DecoderForge x = with(CODE);
            String line = line(x, word);
            int form = inCode(word);
            // FREE BITS are not written, so they come back as 0
            int free = form == BR ? 0x00F : form == RET ? 0x07F : form == ANY ? 0x7FF : 0;
            due("'" + line + "'", read(x, line), form == NONE ? -10 : word & ~free);
        }
    }

    // ---- the store

    @Says("The WORD in a CELL becomes another one: which it was. BAD.")
    static void p27_put() {
        DecoderForge x = new DecoderForge();
        due("it was", x.put(31, 4095), 0);
        due("it was", x.put(31, 7), 4095);
        due("it is", x.cell(31), 7);
        due("the one ahead", x.cell(30), 0);
        due("no such CELL", x.put(32, 0), BAD);
        due("no such CELL", x.put(-1, 0), BAD);
        due("no such WORD", x.put(31, 4096), BAD);
        due("no such WORD", x.put(31, -1), BAD);
        due("it still is", x.cell(31), 7);
    }

    @Says("The WORD in a CELL. BAD.")
    static void p28_cell() {
        DecoderForge x = new DecoderForge();
        for (int cell = 0; cell < 32; cell++) x.put(cell, 100 + cell);
        for (int cell = 0; cell < 32; cell++) due("cell " + cell, x.cell(cell), 100 + cell);
        due("BAD", x.cell(32), BAD);
        due("BAD", x.cell(-1), BAD);
    }

    @Says("n WORDS from a CELL on come to another one on (as they all were): n. BAD: a CELL, n below 0, they don't all stand there, there is "
        + "not as much room (CELLS don't go round).")
    static void p29_copy() {
        for (int from = 0; from < 32; from += 3) {
            for (int to = 0; to < 32; to += 5) {
                DecoderForge x = new DecoderForge();
                for (int cell = 0; cell < 32; cell++) x.put(cell, 100 + cell);
                int room = 32 - Math.max(from, to);
                due("one more than there is", x.copy(from, to, room + 1), BAD);
                due("all that there is", x.copy(from, to, room), room);
                for (int cell = 0; cell < 32; cell++) {
                    int due = cell >= to && cell < to + room ? 100 + cell - to + from : 100 + cell;
                    due("cell " + cell + " of " + from + " to " + to, x.cell(cell), due);
                }
            }
        }
        DecoderForge x = new DecoderForge();
        due("none", x.copy(31, 0, 0), 0);
        due("n below 0", x.copy(0, 0, -1), BAD);
        due("a CELL", x.copy(32, 0, 0), BAD);
        due("a CELL", x.copy(0, 32, 0), BAD);
        due("a CELL", x.copy(-1, 0, 1), BAD);
        due("far off", x.copy(1, 1, MOST), BAD);
    }

    @Says("CELLS (a set) whose WORDS MEAN a FORM (12: NONE; 13: MIXED). BAD.")
    static void p30_holders() {
        DecoderForge x = onTheWay();
        int[] sets = new int[8];
        sets[BR] = 1 << 2;
        sets[GET] = 1;
        sets[FN] = 1 << 1;
        sets[SEL] = 1 << 6 | 1 << 8;
        sets[RET] = 1 << 7 | 1 << 9;
        sets[NOP] = ~(0x3C7 | 1 << 5);
        for (int form = 0; form < 8; form++) due("holders of " + form, x.holders(form), sets[form]);
        due("of NONE", x.holders(12), 1 << 5);
        due("of MIXED", x.holders(13), 0);
        due("BAD", x.holders(8), BAD);
        due("BAD", x.holders(14), BAD);
        DecoderForge y = with(CROWD);
        y.put(9, 0x1FF);
        due("of MIXED", y.holders(13), 1 << 9);
    }

    @Says("n STEPS (0 to 200) from a CELL on, no RETURNS kept, in thought: what 0 the CELL then (the one in which it HALTED), 1 how many "
        + "STEPS were gone, 2 COSTS of all WORDS whose STEPS were gone, together, 3 RETURNS kept then, 4 CELLS from which a STEP was gone "
        + "(a set). BAD.")
    static void p31_walk() {
        DecoderForge x = onTheWay();
        int[] cells = {0, 1, 6, 8, 9, 7, 2, 5, 5, 5};
        int[] costs = {0, 9, 17, 29, 42, 51, 60, 64, 64, 64};
        int[] returns = {0, 0, 1, 2, 2, 1, 0, 0, 0, 0};
        int gone = 0;
        for (int n = 0; n < 10; n++) {
            due("CELL behind " + n, x.walk(0, n, 0), cells[n]);
            due("STEPS behind " + n, x.walk(0, n, 1), Math.min(n, 7));
            due("COSTS behind " + n, x.walk(0, n, 2), costs[n]);
            due("RETURNS behind " + n, x.walk(0, n, 3), returns[n]);
            due("CELLS behind " + n, x.walk(0, n, 4), gone);
            if (n < 7) gone |= 1 << cells[n];
        }
        due("in thought", x.count(4), 0);
        due("in thought", x.count(3), WAY.length);
        due("200 round", x.walk(10, 200, 1), 29);
        due("BAD CELL", x.walk(32, 0, 0), BAD);
        due("BAD n", x.walk(0, 201, 0), BAD);
        due("BAD n", x.walk(0, -1, 0), BAD);
        due("BAD what", x.walk(0, 0, 5), BAD);
        due("BAD what", x.walk(0, 0, -1), BAD);
    }

    @Says("Behind how many STEPS (0 to 200) from a CELL on it HALTS; NONE. BAD.")
    static void p32_halts() {
        DecoderForge x = onTheWay();
        due("from 0", x.halts(0), 7);
        due("from 2", x.halts(2), 1);
        due("from 5", x.halts(5), 0);
        due("from 10 round", x.halts(10), 22 + 7);
        x.put(5, 0);
        due("from 3 by rets that HALT", x.halts(3), 3 + 1 + 1 + 1);
        x.put(20, 0x400);
        due("it never does", x.halts(20), NONE);
        due("BAD", x.halts(32), BAD);
        due("BAD", x.halts(-1), BAD);
    }

    @Says("n STEPS (1 to 200) are gone in deed from a CELL on, no RETURNS kept: how many WORDS are MET then. BAD.")
    static void p33_run() {
        DecoderForge x = onTheWay();
        due("two steps", x.run(0, 2), 2);
        due("from 6 on, no RETURNS kept", x.run(6, 200), 5);
        due("it came to 7 and halted", x.walk(6, 200, 0), 7);
        due("all", x.run(0, 200), 6);
        int[] order = {0x212, 0x305, 0x923, 0x9D0, 0xF00, 0x430};
        for (int i = 0; i < 6; i++) due("met " + i, x.order(i), order[i]);
        due("halts at once", x.run(5, 1), 6);
        due("BAD CELL", x.run(32, 1), BAD);
        due("BAD n", x.run(0, 0), BAD);
        due("BAD n", x.run(0, 201), BAD);
    }

    @Says("Whether a WORD is MET (1, 0). BAD.")
    static void p34_met() {
        DecoderForge x = onTheWay();
        x.run(0, 200);
        for (int[] pair : WAY) due("met(" + pair[1] + ")", x.met(pair[1]), pair[1] == 1 ? 0 : 1);
        due("nop wasn't met", x.met(0), 0);
        due("BAD", x.met(4096), BAD);
        due("BAD", x.met(-1), BAD);
    }

    @Says("The i-th of WORDS MET, by when they first were (the earliest is 0; one forgotten and met again comes last); NONE.")
    static void p35_order() {
        DecoderForge x = with("pa:" + DOTS);
        for (int cell = 0; cell < 32; cell++) x.put(cell, 1000 - cell);
        due("32", x.run(0, 32), 32);
        due("met again", x.run(5, 3), 32);
        for (int i = 0; i < 32; i++) due("order(" + i + ")", x.order(i), 1000 - i);
        x.put(0, 3);
        due("one more", x.run(0, 1), 32);
        due("the earliest is forgotten", x.order(0), 999);
        x.put(0, 1000);
        due("it is met again", x.run(0, 1), 32);
        due("it comes last", x.order(31), 1000);
        due("behind 3", x.order(30), 3);
        due("the earliest now", x.order(0), 998);
        due("NONE", x.order(32), NONE);
        due("NONE", x.order(-1), NONE);
    }

    @Says("COSTS of a WORD. BAD.")
    static void p36_costs() {
        Asked a = new Asked(CODE);
        int[] costs = {1, 4, 9, 8, 8, 9, 10, 1};
        for (int word = 0; word < 4096; word++) {
            int form = inCode(word);
            int y = word >> 4 & 15;
            int due = form == NONE ? 0 : form == SEL ? 10 + (y < 8 ? y : 16 - y) : costs[form];
            due("costs(" + word + ")", a.x().costs(word), due);
        }
        due("BAD", a.x().costs(4096), BAD);
        due("BAD", a.x().costs(-1), BAD);
    }

    // ---- back, what is told

    @Says("The latest is TAKEN BACK: how many can still be. STATE: none.")
    static void p37_undo() {
        DecoderForge x = onTheWay();
        x.run(0, 200);
        due("the run", x.undo(), WAY.length);
        due("nothing is met", x.count(4), 0);
        for (int i = WAY.length - 1; i >= 0; i--) {
            due("it stands", x.cell(WAY[i][0]), WAY[i][1]);
            due("put " + i, x.undo(), i);
            due("it stands no more", x.cell(WAY[i][0]), 0);
        }
        due("none", x.undo(), STATE);
    }

    @Says("All is kept but THE TAPE, the LINE, REFUSALS and what can be TAKEN BACK: how many FORMS there are.")
    static void p38_image() {
        DecoderForge x = onTheWay();
        x.hold(3, 33);
        x.run(0, 200);
        feed(x, "nop");
        x.write(0x212);
        x.means(-1);
        due("how many FORMS", x.image(), 8);
        due("all stays as it is: THE TAPE", x.count(1), 3);
        due("what can be taken back", x.count(3), WAY.length + 2);
        x.wipe();
        x.write(0);
        x.means(-1);
        x.put(0, 5);
        x.hold(3, 34);
        x.run(10, 1);
        due("one more FORM", text(x, "pz:" + DOTS), 9);
        feed(x, "br");
        due("back", x.back(), 8);
        due("FORMS were kept", x.named(25, NONE, NONE), NONE);
        due("CELLS were kept", x.cell(0), 0x212);
        due("MET was kept", x.count(4), 6);
        due("THE TAPE wasn't", x.count(1), 2);
        due("the LINE wasn't", x.written(0), 'n');
        due("REFUSALS weren't", x.refused(0), 2);
        due("what can be taken back wasn't", x.count(3), 0);
        due("THE HAND was kept", x.hold(3, 0), 33);
    }

    @Says("All that was kept is so again: how many FORMS there are. STATE: nothing was.")
    static void p39_back() {
        DecoderForge x = new DecoderForge();
        due("nothing was", x.back(), STATE);
        due("an image of nothing", x.image(), 0);
        text(x, CODE);
        x.put(3, 3);
        due("no FORMS again", x.back(), 0);
        due("no WORD means any", x.many(12), 4096);
        due("the CELL", x.cell(3), 0);
        due("other FORMS come in their place", text(x, CROWD), 5);
        due("they are meant", x.means(0x340), 2);
        due("again", x.back(), 0);
        due("and again", x.back(), 0);
        due("no REFUSAL but the first", x.refused(2), 1);
    }

    @Says("0 FORMS, 1 bytes of THE TAPE, 2 bytes of the LINE, 3 what can be TAKEN BACK, 4 WORDS MET. BAD.")
    static void p40_count() {
        DecoderForge x = onTheWay();
        x.run(0, 200);
        feed(x, "nop 7");
        x.write(0x212);
        int[] due = {8, 5, 7, WAY.length + 1, 6};
        for (int what = 0; what < 5; what++) due("count(" + what + ")", x.count(what), due[what]);
        due("BAD", x.count(5), BAD);
        due("BAD", x.count(-1), BAD);
    }

    @Says("How many REFUSALS of a number (0: BAD, 1: FULL, 2: STATE) there were. BAD (counted, too): another one.")
    static void p41_refused() {
        DecoderForge x = new DecoderForge();
        for (int i = 0; i < 25; i++) x.feed(0, 8);
        for (int i = 0; i < 3; i++) x.feed(0, 1);
        for (int i = 0; i < 5; i++) x.undo();
        for (int i = 0; i < 7; i++) x.cell(99);
        due("BAD", x.refused(0), 7);
        due("FULL", x.refused(1), 3);
        due("STATE", x.refused(2), 5);
        due("another one", x.refused(3), BAD);
        due("another one", x.refused(-1), BAD);
        due("counted, too", x.refused(0), 9);
        due("not the others", x.refused(1), 3);
    }
}
