import java.util.List;

/** The document's sentences ahead of its promises, one test or more for each. */
final class SentencesOfTerms extends Sentences {

    // ---- what it is

    @Says("A forge of decoders: forms of words told as patterns of fixed bits, free bits and fields, with rules; which word "
        + "means which form, the more specific one ahead; forms that clash, with the least word that shows it, forms that no "
        + "word means, twins, words of each; trees that test bits, greedy ones, least ones, where a word comes to; fields taken "
        + "out of words and put in; words made of held numbers; words written as lines, lines read back into words; a store of "
        + "words gone through by kinds, with costs; marks of words that were met; what was done taken back; an image.")
    static void t0_aForgeOfDecoders() {
        DecoderForge x = with(CROWD);
        due("the more specific one", x.means(0x340), 2);
        due("forms that clash", x.clash(3, 0), 0x13);
        due("the least word that shows it", x.clash(3, 1), 0x100);
        due("forms that no word means", x.odd(0), 0x12);
        due("twins", x.odd(1), 1);
        due("words of each", x.many(2), 480);
        due("a greedy tree", x.greedy(0xB00, 0), 4);
        due("a least tree", x.least(0xB00, 0), 4);
        due("where a word comes to", x.leaf(0xB00, 0x100), 0x1A);
        due("a field taken out", x.taken(2, 0, 0x5A0), 10);
        due("a field put in", x.laid(2, 0, 0x5A1, 5), 0x551);
        x.hold(0, 9);
        due("a word of held numbers", x.make(2), 0x390);
        due("its line has bytes", x.write(0x390), 3);
        due("the line is read back", read(x, "c 9"), 0x390);
        x.image();
        x.put(31, 0x390);
        due("a way through the store costs", x.walk(31, 1, 2), 2);
        due("words met", x.run(31, 1), 1);
        due("marked", x.met(0x390), 1);
        due("taken back", x.undo(), 2);
        due("marked no more", x.met(0x390), 0);
        due("the image", x.back(), 5);
        due("the store of the image", x.cell(31), 0);
    }

    @Says("An object is used for at most 512 calls after it has been made; what later calls answer is free.")
    static void t0_all512CallsAnswer() {
        DecoderForge x = new DecoderForge();
        int calls = 0;
        while (calls < 500) {
            due("put in call " + (calls + 1), x.put(calls / 2 % 32, calls), calls < 64 ? 0 : calls - 64);
            due("cell in call " + (calls + 2), x.cell(calls / 2 % 32), calls);
            calls += 2;
        }
        for (int left = 15; left >= 5; left--) due("undo with " + left + " left", x.undo(), left);
        due("call 512", x.count(3), 5);
    }

    // ---- terms

    @Says("REFUSALS are answers below -1000: BAD -1001 (a number that may not be, nothing of that number), FULL -1002, STATE -1003.")
    static void t0_refusals() {
        DecoderForge x = new DecoderForge();
        due("a number that may not be", x.means(4096), -1001);
        due("nothing of that number", x.formOf(0, 0), -1001);
        for (int i = 0; i < 25; i++) x.feed(0, 8);
        due("FULL", x.feed(0, 1), -1002);
        due("STATE", x.undo(), -1003);
        due("STATE", x.back(), -1003);
        due("how many BAD", x.refused(0), 2);
        due("how many FULL", x.refused(1), 1);
        due("how many STATE", x.refused(2), 2);
    }

    @Says("An act tells the first of those that its words name, in their order; it changes nothing then but what refused() tells.")
    static void t0_theFirstOfThem() {
        DecoderForge x = with("pa:0000wwww0000;pb:0000....0000");
        for (int i = 0; i < 25; i++) x.feed(0, 8);
        due("feed: BAD and FULL", x.feed(0, 9), BAD);
        due("feed: FULL alone", x.feed(0, 8), FULL);
        due("make: STATE alone", x.make(0), STATE);
        x.hold(0, 16);
        due("make: BAD and STATE", x.make(0), BAD);
        due("BAD", x.refused(0), 2);
        due("FULL", x.refused(1), 1);
        due("STATE", x.refused(2), 1);
        due("the tape", x.count(1), 200);
        due("what can be taken back", x.count(3), 1);
    }

    @Says("An act tells the first of those that its words name, in their order; it changes nothing then but what refused() tells.")
    static void t0_nothingElseChanges() {
        refused(BAD, x -> x.feed(0, 0), x -> x.hold(8, 0), x -> x.put(32, 0), x -> x.copy(0, 31, 2), x -> x.run(0, 0),
            x -> x.write(4096), x -> x.make(9), x -> x.refused(3));
        refusedOn(() -> new DecoderForge(), STATE, x -> x.undo(), x -> x.back());
    }

    @Says("NONE is -1, MIXED is -2 (no REFUSALS).")
    static void t0_noneAndMixedAreNoRefusals() {
        DecoderForge x = with(CROWD);
        due("NONE", x.means(0x800), DecoderForge.NONE);
        due("MIXED", x.means(0x100), DecoderForge.MIXED);
        due("NONE is", DecoderForge.NONE, -1);
        due("MIXED is", DecoderForge.MIXED, -2);
        x.order(0);
        x.written(0);
        x.clash(99, 0);
        for (int which = 0; which < 3; which++) due("refused(" + which + ")", x.refused(which), 0);
    }

    @Says("Sets are told as bits.")
    static void t0_setsAreBits() {
        DecoderForge x = with(CODE);
        due("forms 4, 7 fit", x.fits(0x802), 1 << 4 | 1 << 7);
        due("forms of kind CALL", x.ofKind(3), 1 << 3 | 1 << 6);
        due("words 0x2E0 to 0x2EF of get in their row", x.covers(2, 0x2E0 / 64), 0x0000FFFFFFFFFFFFL);
        due("bits of y in put", x.field(4, 2, 1), 1 << 7 | 1 << 5 | 1 << 3 | 1 << 1);
        due("all cells", x.holders(0), -1);
        x.put(31, 1);
        due("all cells but the last", x.holders(0), 0x7FFFFFFF);
        due("the last cell", x.holders(12), 1 << 31);
    }

    // ---- 1: words, forms

    @Says("WORDS have 12 BITS, 11 down to 0 (0 to 4095).")
    static void t1_words() {
        DecoderForge x = with("pa:100000000000;pb:000000000001");
        due("BIT 11", x.means(2048), 0);
        due("BIT 0", x.means(1), 1);
        due("the least", x.means(0), NONE);
        due("the greatest", x.means(4095), NONE);
        due("below", x.means(-1), BAD);
        due("above", x.means(4096), BAD);
        due("all of them", x.many(0) + x.many(1) + x.many(12) + x.many(13), 4096);
    }

    @Says("FORMS 0, 1, .. (12 at most), each with a KIND, a NAME (1 to 3 letters a to z; no two alike), a PATTERN: 12 signs, "
        + "for BITS 11 to 0: 0 or 1 (FIXED), . (FREE), a letter w x y z (a plain FIELD), W X Y Z (a signed FIELD).")
    static void t1_forms() {
        DecoderForge x = with("pa:01.wxyzWXYZ.;jb:1...........;sabc:............");
        due("forms", x.count(0), 3);
        due("kinds", x.formOf(0, 0) * 100 + x.formOf(1, 0) * 10 + x.formOf(2, 0), 14);
        due("letters of names", x.formOf(0, 5) * 100 + x.formOf(1, 5) * 10 + x.formOf(2, 5), 113);
        due("fixed", x.formOf(0, 1), 0xC00);
        due("fixed as 1", x.formOf(0, 2), 0x400);
        due("fields", x.formOf(0, 3), 8);
        for (int letter = 0; letter < 8; letter++) {
            due("bit of letter " + letter, x.field(0, letter, 1), 1 << (8 - letter));
            due("a 1 in letter " + letter, x.taken(0, letter, 4095), letter < 4 ? 1 : -1);
        }
        due("no two alike", text(x, "pabc:............"), -10 - 4);
        for (int i = 3; i < 12; i++) due("form " + i, text(x, "p" + (char) ('c' + i) + ":............"), i + 1);
        due("a 13th", text(x, "pz:............"), -10);
        due("12 at most", x.count(0), 12);
    }

    @Says("All BITS of one letter, the highest first, are one FIELD (w and W are two), of 8 BITS at most.")
    static void t1_fields() {
        DecoderForge x = with("pa:w.W0w.W1w.W.");
        due("bits of w", x.field(0, 0, 1), 0x888);
        due("bits of W", x.field(0, 4, 1), 0x222);
        due("how many w", x.field(0, 0, 0), 3);
        due("the highest first", x.taken(0, 0, 0x800), 4);
        due("then the next", x.taken(0, 0, 0x080), 2);
        due("then the lowest", x.taken(0, 0, 0x008), 1);
        due("8 bits", text(x, "pb:wwww....wwww"), 2);
        due("8 and 4", text(x, "pc:wWwWwWwWwwww"), 3);
        due("9 bits", text(x, "pd:wwww..w.wwww"), -10 - 14);
    }

    @Says("What stands in a FIELD is a number, of a signed one by two's complement.")
    static void t1_whatStandsInAField() {
        DecoderForge x = with("pa:wwwwwwww....;pb:WWWWWWWW....;pc:...........X");
        for (int number = 0; number < 64; number++) {
            int standing = 4 * number + 3;
            due("plain " + standing, x.taken(0, 0, standing << 4), standing);
            due("signed " + standing, x.taken(1, 4, standing << 4), standing < 128 ? standing : standing - 256);
        }
        due("one bit that is 1", x.taken(2, 5, 1), -1);
        due("one bit that is 0", x.taken(2, 5, 4094), 0);
    }

    @Says("RULES (3 at most): l#N (what stands in FIELD l isn't N; N 0 to 255), l/N (N divides it; N 2 to 9; 0 is divided by all), "
        + "l<k (what stands in l is less than what stands in k).")
    static void t1_rules() {
        Asked a = new Asked("pa:....wwwwwwww,w#255,w#0,w#7;pb:0000xxxxxxxx,x/9;pc:0001YYYYYYYY,Y/7;pd:1111WWWWxxxx,W<x,x/2;"
            + "pe:1110WWWWxxxx,x<W;pf:1101YYYYZZZZ,Y<Z;pg:1100YYYYZZZZ,Y#15");
        for (int low = 0; low < 256; low++) {
            due("# in " + low, a.x().fits(0x200 + low), low == 255 || low == 0 || low == 7 ? 0 : 1);
            due("/9 in " + low, a.x().fits(low) >> 1 & 1, low % 9 == 0 ? 1 : 0);
            int signed = low < 128 ? low : low - 256;
            boolean sevenfold = false;
            for (int times = -19; times < 19; times++) sevenfold |= 7 * times == signed;
            due("/7 in " + signed, a.x().fits(0x100 + low) >> 2 & 1, sevenfold ? 1 : 0);
            int high = low >> 4 < 8 ? low >> 4 : (low >> 4) - 16;
            int lower = low % 16;
            due(high + " < " + lower, a.x().fits(0xF00 + low) >> 3 & 1, high < lower && lower % 2 == 0 ? 1 : 0);
            due(lower + " < " + high, a.x().fits(0xE00 + low) >> 4 & 1, lower < high ? 1 : 0);
            due(high + " < signed " + lower, a.x().fits(0xD00 + low) >> 5 & 1, high < (lower < 8 ? lower : lower - 16) ? 1 : 0);
            due("a signed one is never 15: " + high, a.x().fits(0xC00 + low) >> 6 & 1, 1);
        }
        textFault("pa:wwwwwwww....,w#1,w#2,w#3,w#4", 27);
    }

    @Says("MASK: the FIXED BITS, as a set; VALUE: those of them that are 1.")
    static void t1_maskAndValue() {
        DecoderForge x = with(CODE);
        int[] masks = {0xFFF, 0xC00, 0xF00, 0xF00, 0xF00, 0xF80, 0xF00, 0x800};
        int[] values = {0, 0x400, 0x200, 0x300, 0x800, 0xF00, 0x900, 0x800};
        for (int form = 0; form < 8; form++) {
            due("MASK of " + form, x.formOf(form, 1), masks[form]);
            due("VALUE of " + form, x.formOf(form, 2), values[form]);
        }
    }

    @Says("A FORM FITS a WORD whose FIXED BITS are as told, if all RULES hold in it.")
    static void t1_fits() {
        Asked a = new Asked(CROWD);
        for (int word = 0; word < 4096; word++) due("fits(" + word + ")", a.x().fits(word), inCrowd(word));
    }

    @Says("One is OVER another one, if its MASK has all BITS of the other's MASK and more, and in the other's MASK both VALUES are alike.")
    static void t1_over() {
        DecoderForge x = with("pa:01..........;pb:010.........;pc:011.........;pd:01..........;pe:..0.........;pf:............");
        String[] rows = {".00001", "1.0111", "10.101", "000.01", "0000.1", "00000."};
        for (int a = 0; a < 6; a++) {
            for (int b = 0; b < 6; b++) {
                if (a != b) due(a + " over " + b, x.over(a, b), rows[a].charAt(b) - '0');
            }
        }
    }

    @Says("A WORD MEANS the FORM that FITS it and is OVER each other one that FITS it; NONE, if none FITS; else MIXED.")
    static void t1_means() {
        Asked crowd = new Asked(CROWD);
        Asked code = new Asked(CODE);
        for (int word = 0; word < 4096; word++) {
            due("in the crowd means(" + word + ")", crowd.x().means(word), meantInCrowd(word));
            due("in the code means(" + word + ")", code.x().means(word), inCode(word));
        }
    }

    @Says("KINDS: 0 PLAIN; 1 JUMP, 2 LOAD, 5 TRAP under PLAIN; 3 CALL under JUMP; 4 STORE under LOAD; 6 GATE under CALL.")
    static void t1_kinds() {
        DecoderForge x = with("pa:............;jb:............;lc:............;cd:............;se:............;tf:............;gg:............");
        due("PLAIN", x.ofKind(0), 0x7F);
        due("JUMP", x.ofKind(1), 1 << 1 | 1 << 3 | 1 << 6);
        due("LOAD", x.ofKind(2), 1 << 2 | 1 << 4);
        due("CALL", x.ofKind(3), 1 << 3 | 1 << 6);
        due("STORE", x.ofKind(4), 1 << 4);
        due("TRAP", x.ofKind(5), 1 << 5);
        due("GATE", x.ofKind(6), 1 << 6);
    }

    @Says("A TEXT is read from THE TAPE (bytes, 200 at most): STATEMENTS, parted by ; .")
    static void t1_aText() {
        String all = alike(11, 'p', "............") + ";paa:wwwwwwww....,w#255";
        due("its bytes", all.length(), 198);
        textStands(all, 12);
        textFault(all + ";", 199);
        textFault("pa:............,pb:............", 16);
        textFault("pa:............ ;pb:............", 15);
        textFault(";pa:............", 0);
    }

    @Says("STATEMENT: a KIND's letter (p j l c s t g: 0 to 6), a NAME, :, a PATTERN, then RULES, each with , ahead.")
    static void t1_aStatement() {
        DecoderForge x = with("pa:............;jb:............;lc:............;cd:............;se:............;tf:............;"
            + "gg:wwwwXXXX....,w/2,X#3,w<X");
        for (int kind = 0; kind < 7; kind++) due("KIND of form " + kind, x.formOf(kind, 0), kind);
        due("rules", x.formOf(6, 4), 3);
        due("no rules", x.formOf(5, 4), 0);
        textFault("pa:wwww........w/2", 15);
        textFault("pa:wwww........,,w/2", 16);
        textFault("pa:wwww........,w/2w#1", 19);
    }

    @Says("N are 1 to 3 digits.")
    static void t1_digitsOfN() {
        String ahead = "pa:wwwwwwww....,w";
        textStands(ahead + "#7", 1);
        textStands(ahead + "#07", 1);
        textStands(ahead + "#007", 1);
        textFault(ahead + "#0007", 21);
        textFault(ahead + "#", 18);
        textFault(ahead + "#x", 18);
        textFault(ahead + "#-1", 18);
        due("w#007 is w#7", with(ahead + "#007").fits(0x070), 0);
        due("w/009 is w/9", with(ahead + "/009").many(0), 29 * 16);
    }

    @Says("No blanks.")
    static void t1_noBlanks() {
        String whole = "pab:wwww....0000,w#15,w/2;pc:............";
        textStands(whole, 2);
        for (int at = 0; at <= whole.length(); at++) {
            textFault(whole.substring(0, at) + " " + whole.substring(at), at);
        }
    }

    @Says("Each adds a FORM.")
    static void t1_eachAddsAForm() {
        DecoderForge x = with("pa:000000000000");
        due("three more", text(x, "jb:000000000001;lc:000000000010;cd:000000000011"), 4);
        for (int form = 0; form < 4; form++) due("form " + form + " in its turn", x.formOf(form, 2), form);
    }

    @Says("FAULT: the place (from 0) of the first byte with which no TEXT goes on; how many bytes there are, if it ends too early.")
    static void t1_fault() {
        String whole = "pab:ww01....0000,w#3,w/2,w<w";
        textStands(whole, 1);
        List<Integer> ends = List.of(16, 20, 24, 28);
        for (int end = 0; end < whole.length(); end++) {
            String some = whole.substring(0, end);
            if (ends.contains(end)) textStands(some, 1);
            else textFault(some, end);
            // there is no place at which this byte may stand
            textFault(some + "~" + whole.substring(end), end);
        }
    }

    @Says("Also: of a 13th FORM its KIND's letter, of a NAME that there is the : behind it, of a ninth BIT of a FIELD its sign, of a "
        + "letter in a RULE that isn't in the PATTERN its place, of an N out of its bounds its first digit, of a fourth RULE the , ahead.")
    static void t1_alsoFaults() {
        textFault(alike(12, 'p', "............"), "pz:............", 0);
        textFault(alike(11, 'p', "............"), "py:............;pz:............", 16);
        textFault("pabc:............", "pab:............;jabc:............", 21);
        textFault("pa:............;pa:............", 18);
        textFault("pa:wwwwwwwww...", 11);
        textFault("pa:XwXwXwXwXwXw;pb:...ZZZZZZZZZ", 30);
        textFault("pa:wwww........,x#1", 16);
        textFault("pa:wwww........,w<W", 18);
        textFault("pa:wwww........,w#256", 18);
        textFault("pa:wwww........,w#1,w/1", 22);
        textFault("pa:wwww........,w/10", 18);
        textFault("pa:wwww........,w/2,w/3,w/4,w/5", 27);
    }

    @Says("All FORMS of a TEXT come, or none.")
    static void t1_allOrNone() {
        DecoderForge x = with("pa:............");
        due("a fault in the last byte", text(x, "pb:............;pc:............;pd:...........*"), -10 - 46);
        due("none came", x.count(0), 1);
        due("b isn't there", x.named(1, -1, -1), NONE);
        due("the same without it", text(x, "pb:............;pc:............;pd:............"), 4);
    }

    // ---- 2: clashes

    @Says("CLASHES: pairs of FORMS, a less than b, that both FIT some WORD that is MIXED: by a, then by b; the WITNESS: the least such WORD.")
    static void t2_clashes() {
        DecoderForge x = with(CROWD);
        int[] pairs = {0x01, 0x03, 0x04, 0x13, 0x14, 0x34};
        int[] witnesses = {0x330, 0x330, 0x330, 0x100, 0x100, 0x100};
        for (int i = 0; i < 6; i++) {
            due("pair " + i, x.clash(i, 0), pairs[i]);
            due("witness " + i, x.clash(i, 1), witnesses[i]);
        }
        due("no more", x.clash(6, 0), NONE);
        due("how many", x.odd(2), 6);
    }

    @Says("DEAD: FORMS that no WORD MEANS.")
    static void t2_dead() {
        due("twins in a crowd", with(CROWD).odd(0), 1 << 1 | 1 << 4);
        due("none in the code", with(CODE).odd(0), 0);
        due("rules that never hold", with("pa:wwww........,w<w;pb:0...........").odd(0), 1);
        due("covered by two over it", with("pa:0...........;pb:00..........;pc:01..........").odd(0), 1);
    }

    @Says("TWINS: how many pairs have the same MASK and the same VALUE.")
    static void t2_twins() {
        due("one pair", with(CROWD).odd(1), 1);
        due("no pair", with(CODE).odd(1), 0);
        due("four alike", with("pa:01..........;pb:01wwwwwwww..;pc:01.....XXXX.,X#0;td:01..........;pe:0..........1").odd(1), 6);
        due("the same MASK alone", with("pa:01..........;pb:00..........").odd(1), 0);
        due("the same VALUE alone", with("pa:01..........;pb:.1..........").odd(1), 0);
    }

    // ---- 3: trees

    @Says("TREES test BITS out of a told set T (6 BITS at most).")
    static void t3_trees() {
        DecoderForge x = with("pa:000000000000;pb:111111111111");
        due("no bit", x.greedy(0, 0), 0);
        // with one of two left on each side, each other bit is still fixed there
        due("six bits", x.greedy(0x03F, 0), 1 + 2 * 5);
        due("six bits on one way", x.greedy(0xFC0, 1), 6);
        due("seven bits", x.greedy(0xFE0, 0), BAD);
        due("a bit outside of T isn't tested", x.greedy(0x001, 2), 0);
    }

    @Says("At first all FORMS are CANDIDATES.")
    static void t3_atFirstAll() {
        due("eight", with(CODE).leaf(0, 0), 0xFF);
        due("five", with(CROWD).leaf(0, 4095), 0x1F);
        due("dead ones, too", with("pa:wwww........,w<w").leaf(0, 0), 1);
        due("how many", with(CODE).greedy(0, 3), 8);
    }

    @Says("Where a BIT is tested, those that FIX it as 1 are none on side 0, those that FIX it as 0 none on side 1.")
    static void t3_sides() {
        DecoderForge x = with(CODE);
        // BIT 11 is 0 in nop, br, get, fn and 1 in put, ret, sel, any
        due("side 0", x.leaf(0x800, 0x000), 0x0F);
        due("side 1", x.leaf(0x800, 0x800), 0xF0);
        // BIT 7 is 0 in nop and ret alone
        due("side 0 of BIT 7", x.leaf(0x080, 0xF7F), 0xFF);
        due("side 1 of BIT 7", x.leaf(0x080, 0x080), 0xFF - 0x21);
    }

    @Says("A BIT (of T, not tested above) is USEFUL, if some CANDIDATE FIXES it.")
    static void t3_useful() {
        DecoderForge x = with("pa:0.w.........;pb:0.W.........;pc:1...........");
        due("fixed by all", x.greedy(0x800, 0), 1);
        due("free", x.greedy(0x400, 0), 0);
        due("a field's", x.greedy(0x200, 0), 0);
        due("three, one of them useful", x.greedy(0xE00, 0), 1);
        due("fixed by one alone", with("pa:............;pb:.....1......").greedy(0x040, 0), 1);
    }

    @Says("Without such a BIT there is a LEAF.")
    static void t3_aLeaf() {
        DecoderForge x = with("pa:00..........;pb:1...........");
        due("BIT 10 isn't tested where only b is", x.greedy(0xC00, 0), 2);
        due("on one way", x.greedy(0xC00, 1), 2);
        due("b's leaf", x.leaf(0xC00, 0xC00), 2);
        due("a's leaf", x.leaf(0xC00, 0x000), 1);
        due("a leaf without candidates", x.leaf(0xC00, 0x400), 0);
        due("no forms", new DecoderForge().greedy(0x03F, 2), NONE);
    }

    @Says("GREEDY: of USEFUL BITS it tests that for which the more CANDIDATES of both sides are fewest; of several that for which "
        + "those of both sides together are fewest; of several the highest.")
    static void t3_greedy() {
        // sides: BIT 11 3 and 2, BIT 10 3 and 1, BIT 9 4 and 1, BIT 8 4 and 0: the more are fewest for 11 and 10
        due("together 4 ahead of 5", with("pa:0000........;pb:0000........;pc:1000........;pd:.1.0........").greedy(0xF00, 2), 10);
        // both sides 2 and 2
        due("the highest", with("pa:00..........;pb:00..........;pc:11..........;pd:11..........").greedy(0xC00, 2), 11);
        // BIT 0 parts 2 and 2, BIT 11 3 and 1
        due("the more are fewest", with("pa:0..........0;pb:0..........0;pc:0..........1;pd:1..........1").greedy(0x801, 2), 0);
        due("the crowd's first", with(CROWD).greedy(0xB00, 2), 11);
        due("the crowd's first of 9 and 8", with(CROWD).greedy(0x300, 2), 8);
    }

    @Says("LEAST: a TREE that tests USEFUL BITS, with fewest TESTS in all (of all places of the TREE).")
    static void t3_least() {
        DecoderForge x = with(CROWD);
        due("the crowd's", x.least(0xB00, 0), 4);
        due("its first", x.least(0xB00, 1), 11);
        // GREEDY begins with BIT 10 (2 and 2), and BIT 11 is useful on both sides; behind BIT 11 BIT 10 is on one alone
        DecoderForge y = with("pa:............;pb:01..........;pc:00..........");
        due("GREEDY's", y.greedy(0xC00, 0), 3);
        due("GREEDY's first", y.greedy(0xC00, 2), 10);
        due("fewer", y.least(0xC00, 0), 2);
        due("with another first", y.least(0xC00, 1), 11);
        // both begin with BIT 11; for a and b GREEDY goes on with BIT 10 (3 tests), LEAST with BIT 9 (2)
        DecoderForge z = with("pa:010.........;pb:000.........;pc:11..........;pd:11..........");
        due("GREEDY's below", z.greedy(0xE00, 0), 5);
        due("fewer below", z.least(0xE00, 0), 4);
        due("with the same first", z.least(0xE00, 1), z.greedy(0xE00, 2));
        due("three of four patterns", with("pa:00..........;pb:01..........;pc:1...........").least(0xC00, 0), 2);
        due("its first is 11", with("pa:00..........;pb:01..........;pc:1...........").least(0xC00, 1), 11);
        due("the other way round", with("pa:00..........;pb:10..........;pc:.1..........").least(0xC00, 1), 10);
    }

    // ---- 4: lines

    @Says("THE HAND holds a number for each letter (0 at first).")
    static void t4_theHand() {
        DecoderForge x = new DecoderForge();
        for (int letter = 0; letter < 8; letter++) due("at first " + letter, x.hold(letter, 10 * letter - 30), 0);
        for (int letter = 0; letter < 8; letter++) due("then " + letter, x.hold(letter, 0), 10 * letter - 30);
    }

    @Says("To MAKE a WORD of a FORM: FREE BITS are 0, in each FIELD stands what THE HAND holds for its letter.")
    static void t4_toMake() {
        DecoderForge x = with("pa:1.w.W.w.W.w1;pb:0...........");
        x.hold(0, 5);
        x.hold(4, -2);
        // w is 101 in BITS 9, 5, 1 and W 10 in BITS 7, 3
        due("make(0)", x.make(0), 1 << 11 | 1 << 9 | 1 << 1 | 1 << 7 | 1);
        due("make(1)", x.make(1), 0);
    }

    @Says("A LINE of a WORD that MEANS a FORM: the NAME, then for each FIELD, by their highest BITS from BIT 11 on, a blank and what "
        + "stands in it (- ahead, if it is below 0; no 0 ahead of digits).")
    static void t4_aLine() {
        DecoderForge x = with(CODE);
        String[] lines = {"nop", "br -32", "br 31", "get 1 2", "fn -128", "fn 127", "put 15 0", "ret", "sel -8 15", "any"};
        int[] words = {0, 0x600, 0x5FF, 0x212, 0x380, 0x37F, 0x8AA, 0xF41, 0x98F, 0xC00};
        for (int i = 0; i < words.length; i++) {
            due("'" + lines[i] + "'", line(x, words[i]).equals(lines[i]) ? 1 : 0, 1);
        }
        DecoderForge y = with("pabc:w.Xz.wXz.y..");
        due("by their highest bits", line(y, 0xFFF).equals("abc 3 -1 3 1") ? 1 : 0, 1);
    }

    @Says("Else ? (NONE) or ! (MIXED), and the WORD's number right behind it.")
    static void t4_noLine() {
        DecoderForge x = with(CROWD);
        due("NONE", line(x, 4095).equals("?4095") ? 1 : 0, 1);
        due("NONE", line(x, 2048).equals("?2048") ? 1 : 0, 1);
        due("MIXED", line(x, 256).equals("!256") ? 1 : 0, 1);
        due("NONE of no forms", line(new DecoderForge(), 0).equals("?0") ? 1 : 0, 1);
    }

    @Says("A LINE is read from THE TAPE: a NAME (all letters a to z that stand there), then as many numbers as there are FIELDS, each "
        + "with one blank ahead (- perhaps, then 1 to 3 digits; -0 and 0s ahead may stand); it gives the WORD that is MADE so.")
    static void t4_aLineIsRead() {
        lineStands(CODE, "nop", 0);
        lineStands(CODE, "br -32", 0x600);
        lineStands(CODE, "br 031", 0x5F0);
        lineStands(CODE, "br -001", 0x7F0);
        lineStands(CODE, "br -0", 0x400);
        lineStands(CODE, "get -0 -000", 0x200);
        lineStands(CODE, "put 15 0", 0x8AA);
        lineStands(CODE, "ret", 0xF00);
        lineStands(CODE, "sel -8 15", 0x98F);
        lineStands(CODE, "any", 0x800);
        lineFault(CODE, "nops", 4);
        lineFault(CODE, "nop ", 3);
        lineFault(CODE, "get  1 2", 4);
        lineFault(CODE, "get 1 2 ", 7);
        lineFault(CODE, "get 1", 5);
        lineFault(CODE, "br 0031", 6);
    }

    @Says("FAULT: the place of the first byte with which no LINE goes on; how many bytes there are, if it ends too early; of a NAME "
        + "that there isn't (also without a letter) the place behind it; of a number (1 to 3 digits of it) that can't stand in its "
        + "FIELD its first byte, whatever is behind; if the WORD doesn't MEAN the FORM: how many bytes there are and 1 more.")
    static void t4_fault() {
        String whole = "sel -8 15";
        for (int end = 0; end < whole.length(); end++) {
            String some = whole.substring(0, end);
            // "sel -8 1" is a line, but 1 isn't divided by 3
            lineFault(CODE, some, end == 8 ? 9 : end);
            lineFault(CODE, some + "~" + whole.substring(end), end);
        }
        lineFault(CODE, "nopq 1", 4);
        lineFault(CODE, "q", 1);
        lineFault(CODE, " nop", 0);
        lineFault(CODE, "7", 0);
        lineFault(CODE, "br 32x", 3);
        lineFault(CODE, "br -33 4", 3);
        lineFault(CODE, "br 9999", 3);
        lineFault(CODE, "get 1 -1", 6);
        lineFault(CODE, "get 16 ~", 4);
        lineFault(CODE, "get 15 0", 9);
        lineFault(CODE, "put 3 3", 8);
    }

    // ---- 5: the store

    @Says("THE STORE: 32 CELLS of WORDS (0 at first).")
    static void t5_theStore() {
        DecoderForge x = new DecoderForge();
        for (int cell = 0; cell < 32; cell++) due("cell " + cell, x.put(cell, 4095 - cell), 0);
        for (int cell = 0; cell < 32; cell++) due("cell " + cell, x.cell(cell), 4095 - cell);
        due("no 33rd", x.cell(32), BAD);
    }

    @Says("A STEP from CELL i, by the WORD in it and the FORM that it MEANS (NONE, MIXED: HALT): PLAIN, LOAD, STORE: to the next CELL "
        + "(behind 31: 0).")
    static void t5_aStep() {
        DecoderForge x = with(CODE);
        int[] words = {0x000, 0x212, 0x802, 0xA00};
        for (int word : words) {
            for (int cell : new int[] {0, 17, 31}) {
                x.put(cell, word);
                due("from " + cell + " by " + word, x.walk(cell, 1, 0), (cell + 1) % 32);
            }
        }
        x.put(4, 0x001);
        due("NONE", x.halts(4), 0);
        due("NONE: where", x.walk(4, 9, 0), 4);
        DecoderForge y = with(CROWD);
        y.put(4, 0x100);
        due("MIXED", y.halts(4), 0);
        due("behind one step", y.halts(3), 1);
    }

    @Says("JUMP: FIRST CELLS on (below 0: back; round).")
    static void t5_jump() {
        DecoderForge x = with(CODE);
        for (int first = -32; first < 32; first++) {
            int cell = (first + 40) % 32;
            x.put(cell, 0x400 + ((first + 64) % 64) * 16);
            due("from " + cell + " by " + first, x.walk(cell, 1, 0), (cell + first + 32) % 32);
        }
        due("no RETURN", x.walk(8, 1, 3), 0);
    }

    @Says("CALL: as a JUMP; if 4 RETURNS are kept the oldest one is lost; the next CELL is kept.")
    static void t5_call() {
        DecoderForge x = with(CODE);
        // five calls, two cells on each, then rets in cells 10, 9, 7, 5, 3 and 1
        for (int cell = 0; cell < 10; cell += 2) {
            x.put(cell, 0x302);
            x.put(cell + 1, 0xF00);
        }
        x.put(10, 0xF00);
        for (int n = 0; n <= 5; n++) due("RETURNS behind " + n, x.walk(0, n, 3), Math.min(n, 4));
        int[] way = {10, 9, 7, 5, 3, 3, 3};
        for (int i = 0; i < way.length; i++) due("CELL behind " + (5 + i), x.walk(0, 5 + i, 0), way[i]);
        due("the oldest one was lost", x.halts(0), 9);
        x.put(20, 0x380);
        due("128 back is where it was", x.walk(20, 1, 0), 20);
        x.put(20, 0x37F);
        due("127 on", x.walk(20, 1, 0), (20 + 127) % 32);
    }

    @Says("GATE: as a CALL, if FIRST is even, else to the next CELL.")
    static void t5_gate() {
        DecoderForge x = with(CODE);
        for (int first = -8; first < 8; first++) {
            x.put(10, 0x900 + (first + 16) % 16 * 16);
            boolean even = first == -8 || first == -6 || first == -4 || first == -2 || first == 0 || first == 2 || first == 4 || first == 6;
            due("by " + first, x.walk(10, 1, 0), even ? 10 + first : 11);
            due("RETURNS by " + first, x.walk(10, 1, 3), even ? 1 : 0);
        }
    }

    @Says("TRAP: to the latest RETURN, which is kept no more; HALT, if none is.")
    static void t5_trap() {
        DecoderForge x = onTheWay();
        due("to the latest", x.walk(0, 5, 0), 7);
        due("kept no more", x.walk(0, 5, 3), 1);
        due("to the one before", x.walk(0, 6, 0), 2);
        due("none is", x.walk(0, 6, 3), 0);
        due("HALT", x.halts(7), 0);
        due("HALT", x.halts(9), 0);
    }

    @Says("FIRST: what stands in the FIELD with the highest BIT (0, if there is none).")
    static void t5_first() {
        DecoderForge x = with("ja:00wX.wX.....;jb:01..........;jc:10.....w.WWW");
        x.put(5, 0x200);
        due("w of two fields: 2", x.walk(5, 1, 0), 7);
        x.put(5, 0x100);
        due("w of two fields: 0", x.walk(5, 1, 0), 5);
        x.put(5, 0x400);
        due("no field", x.walk(5, 1, 0), 5);
        x.put(5, 0x817);
        due("w of three bits lower: 1", x.walk(5, 1, 0), 6);
        x.put(5, 0x807);
        due("W doesn't count", x.walk(5, 1, 0), 5);
    }

    @Says("COSTS of a WORD by its KIND: PLAIN: 1 and as many as it has FIELDS. JUMP: 2 more than a PLAIN. LOAD: 3 times a PLAIN. TRAP: 9. "
        + "CALL: twice a JUMP. STORE: 1 less than a LOAD. GATE: a CALL, and how far FIRST is from 0. NONE, MIXED: 0.")
    static void t5_costs() {
        String[] fields = {"..........", "w.........", "w.x.......", "w.x.W....."};
        int[][] due = {{1, 3, 3, 6, 2, 9, 6}, {2, 4, 6, 8, 5, 9, 8}, {3, 5, 9, 10, 8, 9, 10}, {4, 6, 12, 12, 11, 9, 12}};
        for (int n = 0; n < 4; n++) {
            for (int kind = 0; kind < 7; kind++) {
                DecoderForge x = with("pjlcstg".charAt(kind) + "a:0." + fields[n]);
                due("kind " + kind + ", " + n + " fields", x.costs(0), due[n][kind]);
                due("FIRST is 1", x.costs(0x200), due[n][kind] + (kind == 6 && n > 0 ? 1 : 0));
                due("NONE", x.costs(0x800), 0);
            }
        }
        DecoderForge y = with("ga:0WWWWWWWW...;pb:1w..........;pc:1.x.........");
        due("128 from 0", y.costs(0x400), 8 + 128);
        due("1 from 0", y.costs(0x7F8), 8 + 1);
        due("127 from 0", y.costs(0x3F8), 8 + 127);
        due("MIXED", y.costs(0x800), 0);
    }

    @Says("MET: the set of WORDS that were in CELLS as a STEP was gone in deed (32 WORDS are kept at most; one more forgets the "
        + "earliest met).")
    static void t5_met() {
        DecoderForge x = with("pa:............");
        for (int round = 0; round < 3; round++) {
            for (int cell = 0; cell < 11; cell++) {
                x.put(cell, 100 * round + cell);
            }
            due("round " + round, x.run(0, 11), Math.min(32, 11 * (round + 1)));
        }
        due("the earliest is forgotten", x.met(0), 0);
        due("the one behind it is kept", x.met(1), 1);
        due("the earliest is now", x.order(0), 1);
        due("the latest", x.order(31), 210);
        x.walk(20, 1, 0);
        x.halts(20);
        due("in thought none is met", x.met(0), 0);
    }

    @Says("What put(), hold(), copy(), run() did, each that wasn't refused, can be TAKEN BACK, the latest first, 16 at most (of more the "
        + "oldest is lost); a TEXT that is taken, and back(), leave none.")
    static void t5_takenBack() {
        DecoderForge x = with("pa:............");
        x.put(0, 1);
        for (int i = 0; i < 4; i++) {
            x.put(1, 10 + i);
            x.hold(2, 20 + i);
            x.copy(1, 2 + i, 1);
            x.run(1, 1);
            x.put(32, 0);
            x.hold(2, 256);
            x.copy(0, 31, 2);
            x.run(0, 201);
        }
        due("16 at most", x.count(3), 16);
        for (int i = 3; i >= 0; i--) {
            due("words met", x.count(4), i + 1);
            due("a run is taken back", x.undo(), 4 * i + 3);
            due("words met then", x.count(4), i);
            due("a copy is taken back", x.undo(), 4 * i + 2);
            due("the cell then", x.cell(2 + i), 0);
            due("a hold is taken back", x.undo(), 4 * i + 1);
            due("a put is taken back", x.undo(), 4 * i);
            due("the cell then", x.cell(1), i == 0 ? 0 : 9 + i);
        }
        due("the oldest is lost", x.undo(), STATE);
        due("and stays done", x.cell(0), 1);
        due("the hand", x.hold(2, 0), 0);
        due("a text that isn't taken", text(x, "pa:............"), -12);
        due("leaves it", x.count(3), 1);
        due("a text that is taken", text(x, "pb:............"), 2);
        due("leaves none", x.count(3), 0);
        x.image();
        x.put(0, 2);
        x.back();
        due("back() leaves none", x.undo(), STATE);
    }
}
