/** For each promise of the document answers reckoned by hand: ordinary inputs, edges, wrong inputs. */
public final class PromiseTest {
    static final int BAD = -1001, FULL = -1002, STATE = -1003, NONE = -1, MIXED = -2;
    static final int LEAST = Integer.MIN_VALUE, MOST = Integer.MAX_VALUE;

    /** Forms 0 to 7, of each kind one, and a wide one below them. */
    static final String ISA = "padd:0001wwwwXXXX;jgo:0100WWWWWWWW;lld:1000xxxxyyyy,x/2;sst:100011110000;"
            + "ccal:0101WWWWWWWW;gg:0110ZZZZ.ww.;tt:1111........;pany:............";

    private static int asked = 0;
    private static int wrong = 0;

    static void due(int promise, String what, long got, long want) {
        asked++;
        if (got != want) {
            wrong++;
            System.out.println("promise " + promise + ": " + what + " answered " + got + ", due is " + want);
        }
    }

    static void feed(DecoderForge x, String s) {
        for (int i = 0; i < s.length(); i += 8) {
            int n = Math.min(8, s.length() - i);
            long bytes = 0;
            for (int k = n - 1; k >= 0; k--) bytes = bytes << 8 | s.charAt(i + k);
            x.feed(bytes, n);
        }
    }

    static int text(DecoderForge x, String s) {
        feed(x, s);
        return x.text();
    }

    static int read(DecoderForge x, String s) {
        feed(x, s);
        return x.read();
    }

    static DecoderForge with(String s) {
        DecoderForge x = new DecoderForge();
        int forms = text(x, s);
        if (forms < 0) throw new IllegalStateException("not a text: " + s);
        return x;
    }

    static String line(DecoderForge x, int word) {
        int n = x.write(word);
        StringBuilder out = new StringBuilder();
        for (int i = 0; i < n; i++) out.append((char) x.written(i));
        return out.toString();
    }

    static void dueLine(DecoderForge x, int word, String want) {
        String got = line(x, word);
        due(24, "write(" + word + ") wrote '" + got + "', length", got.length(), want.length());
        for (int i = 0; i < want.length() && i < got.length(); i++) {
            due(24, "'" + got + "' for '" + want + "': byte " + i, got.charAt(i), want.charAt(i));
        }
    }

    /** Texts that are none, each on a new object with the forms of before. */
    static void fault(String before, String s, int place) {
        DecoderForge x = before.isEmpty() ? new DecoderForge() : with(before);
        int had = x.count(0);
        due(4, "text '" + s + "'", text(x, s), -10 - place);
        due(4, "forms behind the fault in '" + s + "'", x.count(0), had);
        due(4, "tape behind the fault in '" + s + "'", x.count(1), 0);
    }

    static void newObject() {
        due(1, "NONE", DecoderForge.NONE, -1);
        due(1, "MIXED", DecoderForge.MIXED, -2);
        DecoderForge x = new DecoderForge();
        for (int what = 0; what < 5; what++) due(1, "count(" + what + ")", x.count(what), 0);
        for (int which = 0; which < 3; which++) due(1, "refused(" + which + ")", x.refused(which), 0);
        for (int cell = 0; cell < 32; cell++) due(1, "cell(" + cell + ")", x.cell(cell), 0);
        for (int letter = 0; letter < 8; letter++) due(1, "hold(" + letter + ", 1)", x.hold(letter, 1), 0);
        due(1, "means(0)", x.means(0), NONE);
        due(1, "many(12)", x.many(12), 4096);
        due(1, "written(0)", x.written(0), NONE);
        due(1, "order(0)", x.order(0), NONE);
        due(1, "holders(12)", x.holders(12), -1);
        due(1, "halts(5)", x.halts(5), 0);
        due(1, "formOf(0, 0)", x.formOf(0, 0), BAD);
        due(1, "named(0, NONE, NONE)", x.named(0, -1, -1), NONE);
    }

    static void tape() {
        DecoderForge x = new DecoderForge();
        due(2, "feed one", x.feed('t', 1), 1);
        due(2, "feed the lowest of more", x.feed(0x4141410000003a61L, 2), 3);
        due(2, "feed eight", x.feed(0x3030303030303030L, 8), 11);
        due(2, "feed four", x.feed(0x2e2e2e2eL, 4), 15);
        due(2, "text of what was fed", x.text(), 1);
        due(2, "mask of what was fed", x.formOf(0, 1), 0xFF0);
        due(2, "feed(0, 0)", x.feed(0, 0), BAD);
        due(2, "feed(0, 9)", x.feed(0, 9), BAD);
        due(2, "feed(0, -1)", x.feed(0, -1), BAD);
        due(2, "feed(0, LEAST)", x.feed(0, LEAST), BAD);
        due(2, "feed(0, MOST)", x.feed(0, MOST), BAD);
        for (int i = 0; i < 24; i++) x.feed(0, 8);
        due(2, "feed to 199", x.feed(-1, 7), 199);
        due(2, "feed over 200", x.feed(-1, 2), FULL);
        due(2, "BAD ahead of FULL", x.feed(-1, 9), BAD);
        due(2, "count behind FULL", x.count(1), 199);
        due(2, "feed to 200", x.feed(-1, 1), 200);
        due(2, "feed over 200", x.feed(-1, 1), FULL);
        due(2, "refused FULL", x.refused(1), 2);
        due(3, "wipe 200", x.wipe(), 200);
        due(3, "wipe none", x.wipe(), 0);
        due(3, "count behind wipe", x.count(1), 0);
        due(3, "feed behind wipe", x.feed(1, 8), 8);
        due(3, "wipe 8", x.wipe(), 8);
    }

    static void texts() {
        DecoderForge x = new DecoderForge();
        due(4, "one form", text(x, "pa:000000000000"), 1);
        due(4, "two more", text(x, "jab:wwwwwwwwXXXX,w#255,w/9,X<w;gabc:............"), 3);
        due(4, "tape behind a text", x.count(1), 0);
        due(4, "name that is the beginning of another one", x.named(0, 1, -1), 1);
        due(4, "rules", x.formOf(1, 4), 3);
        due(4, "0s ahead in N", text(x, "pb:wwwwwwww....,w#000,w/009,w#007"), 4);
        fault("", "", 0);
        fault("", "q", 0);
        fault("", "P", 0);
        fault("", "p", 1);
        fault("", "p:", 1);
        fault("", "pA:", 1);
        fault("", "pa", 2);
        fault("", "pabcd:", 4);
        fault("", "pa;", 2);
        fault("", "pa:", 3);
        fault("", "pa:0000000000", 13);
        fault("", "pa:00000000000v", 14);
        fault("", "pa:0000 0000000", 7);
        fault("", "pa:0000000000000", 15);
        fault("", "pa:000000000000;", 16);
        fault("", "pa:000000000000;;", 16);
        fault("", ";pa:000000000000", 0);
        fault("", " pa:000000000000", 0);
        fault("", "pa:000000000000 ", 15);
        fault("", "pa:000000000000\0", 15);
        fault("", "pa:000000000000,", 16);
        fault("", "pa:00000000wwww,", 16);
        fault("", "pa:00000000wwww,;", 16);
        fault("", "pa:00000000wwww,w", 17);
        fault("", "pa:00000000wwww,w>", 17);
        fault("", "pa:00000000wwww,w#", 18);
        fault("", "pa:00000000wwww,w#x", 18);
        fault("", "pa:00000000wwww,w<", 18);
        fault("", "pa:00000000wwww,w<1", 18);
        fault("", "pa:00000000wwww,w#1x", 19);
        fault("", "pa:00000000wwww,w#1w", 19);
        fault("", "pa:00000000wwww,w<ww", 19);
        fault("", "pa:00000000wwww,w#-1", 18);
        fault("", "pa:00000000wwww,w#0011", 21);
        fault("", "pa:00000000wwww,w#255;", 22);
        due(4, "a sign above 127", text(new DecoderForge(), "pa:0000000000" + (char) 233 + "0"), -23);
        // a 13th form: its kind's letter
        StringBuilder twelve = new StringBuilder("pa:............");
        for (char c = 'b'; c <= 'l'; c++) twelve.append(";p").append(c).append(":............");
        due(4, "12 forms", text(new DecoderForge(), twelve.toString()), 12);
        fault(twelve.toString(), "pz:............", 0);
        fault(twelve.toString(), "", 0);
        DecoderForge eleven = with(twelve.substring(0, twelve.length() - 16));
        due(4, "11 forms", eleven.count(0), 11);
        due(4, "2 more than 11", text(eleven, "py:............;pz:............"), -10 - 16);
        due(4, "none of them came", eleven.count(0), 11);
        due(4, "1 more than 11", text(eleven, "py:............"), 12);
        // a name that there is: the sign behind it
        fault("pab:............", "pab:............", 3);
        fault("", "pa:............;ja:............", 18);
        due(4, "a longer name", text(with("pab:............"), "pabc:............;pa:............"), 3);
        // a ninth bit of a field: its sign
        fault("", "pa:wwwwwwwww...", 11);
        fault("", "pa:w.wwwwwwww.w", 12);
        fault("", "pa:w.wwwwwww..w", 14);
        fault("", "pa:WwWwwwwwwwww", 13);
        due(4, "eight bits of a field", text(new DecoderForge(), "pa:WWWWWWWWwwww"), 1);
        // letters that aren't in the pattern
        fault("", "pa:00000000wwww,W#1", 16);
        fault("", "pa:00000000wwww,x#1", 16);
        fault("", "pa:00000000wwww,a#1", 16);
        fault("", "pa:00000000wwww,w<W", 18);
        // N out of its bounds: its first digit
        fault("", "pa:00000000wwww,w#256", 18);
        fault("", "pa:00000000wwww,w#999", 18);
        fault("", "pa:00000000wwww,w/1", 18);
        fault("", "pa:00000000wwww,w/0", 18);
        fault("", "pa:00000000wwww,w/10", 18);
        fault("", "pa:00000000wwww,w/010", 18);
        fault("", "pa:00000000wwww,w#1,w/1,w#2", 22);
        // a fourth rule: the sign ahead
        fault("", "pa:00000000wwww,w#1,w#2,w#3,w#4", 27);
        // all forms of a text, or none
        DecoderForge y = with("pa:............");
        due(4, "a fault in the third", text(y, "pb:............;pc:............;pd:0"), -10 - 36);
        due(4, "none came", y.count(0), 1);
        due(4, "no name came", y.named(1, -1, -1), NONE);
        due(4, "means behind it", y.means(0), 0);
        due(4, "the names are free", text(y, "pb:............;pc:............"), 3);
        // what can be taken back: none behind a text, all of it behind a fault
        y.hold(0, 1);
        text(y, "x");
        due(4, "a fault leaves what can be taken back", y.count(3), 1);
        text(y, "pq:000000000000");
        due(4, "a text leaves none", y.count(3), 0);
        due(4, "means behind a text", y.means(0), 3);
    }

    static void told() {
        DecoderForge x = with(ISA);
        int[][] rows = {{0, 0xF00, 0x100, 2, 0, 3}, {1, 0xF00, 0x400, 1, 0, 2}, {2, 0xF00, 0x800, 2, 1, 2},
            {4, 0xFFF, 0x8F0, 0, 0, 2}, {3, 0xF00, 0x500, 1, 0, 3}, {6, 0xF00, 0x600, 2, 0, 1},
            {5, 0xF00, 0xF00, 0, 0, 1}, {0, 0, 0, 0, 0, 3}};
        for (int f = 0; f < rows.length; f++) {
            for (int w = 0; w < 6; w++) due(5, "formOf(" + f + ", " + w + ")", x.formOf(f, w), rows[f][w]);
        }
        due(5, "formOf(8, 0)", x.formOf(8, 0), BAD);
        due(5, "formOf(-1, 0)", x.formOf(-1, 0), BAD);
        due(5, "formOf(0, 6)", x.formOf(0, 6), BAD);
        due(5, "formOf(0, -1)", x.formOf(0, -1), BAD);
        due(5, "formOf(MOST, LEAST)", x.formOf(MOST, LEAST), BAD);
        due(6, "add", x.named(0, 3, 3), 0);
        due(6, "go", x.named(6, 14, NONE), 1);
        due(6, "t", x.named(19, NONE, NONE), 6);
        due(6, "any", x.named(0, 13, 24), 7);
        due(6, "og", x.named(14, 6, NONE), NONE);
        due(6, "gg", x.named(6, 6, NONE), NONE);
        due(6, "zzz", x.named(25, 25, 25), NONE);
        due(6, "no letter", x.named(NONE, NONE, NONE), BAD);
        due(6, "no first letter", x.named(NONE, 3, 3), BAD);
        due(6, "one behind none", x.named(19, NONE, 3), BAD);
        due(6, "26", x.named(26, 3, 3), BAD);
        due(6, "26 second", x.named(0, 26, 3), BAD);
        due(6, "26 third", x.named(0, 3, 26), BAD);
        due(6, "-2", x.named(0, -2, -1), BAD);
        due(6, "-2 third", x.named(0, 3, -2), BAD);
        int[] kinds = {255, 50, 12, 48, 8, 64, 32};
        for (int k = 0; k < 7; k++) due(7, "ofKind(" + k + ")", x.ofKind(k), kinds[k]);
        due(7, "ofKind(7)", x.ofKind(7), BAD);
        due(7, "ofKind(-1)", x.ofKind(-1), BAD);
        due(7, "ofKind of no forms", new DecoderForge().ofKind(0), 0);
    }

    static void meanings() {
        DecoderForge x = with(ISA);
        due(8, "add", x.means(0x100), 0);
        due(8, "st over any alone, x 15 isn't even", x.means(0x8F0), 3);
        due(8, "ld", x.means(0x8E0), 2);
        due(8, "ld with an odd x", x.means(0x8D0), 7);
        due(8, "any", x.means(0), 7);
        due(8, "t", x.means(4095), 6);
        due(8, "means(-1)", x.means(-1), BAD);
        due(8, "means(4096)", x.means(4096), BAD);
        due(8, "NONE", with("pa:1...........").means(0), NONE);
        DecoderForge y = with("pa:0...........;pb:.0..........;pc:00..........");
        due(8, "over both", y.means(0), 2);
        due(8, "only one fits", y.means(0x400), 0);
        due(8, "NONE of three", y.means(0xC00), NONE);
        due(8, "MIXED", with("pa:0...........;pb:.0..........").means(0), MIXED);
        due(8, "twins are MIXED", with("pa:0...........;pb:0...........").means(0), MIXED);
        due(8, "alike masks and other values", with("pa:0...........;pb:1...........").means(2048), 1);
        // one that is over most, not over each other one
        due(8, "not over each", with("pa:000.........;pb:0...........;pc:...0........").means(0), MIXED);
        rules();
        due(9, "fits st", x.fits(0x8F0), 136);
        due(9, "fits ld", x.fits(0x8E0), 132);
        due(9, "fits any", x.fits(0), 128);
        due(9, "fits none", with("pa:1...........").fits(0), 0);
        due(9, "fits all", with("pa:............;pb:............").fits(4095), 3);
        due(9, "fits(4096)", x.fits(4096), BAD);
        due(9, "fits(-1)", x.fits(-1), BAD);
        due(10, "st over ld", x.over(3, 2), 1);
        due(10, "ld over st", x.over(2, 3), 0);
        due(10, "add over any", x.over(0, 7), 1);
        due(10, "add over go", x.over(0, 1), 0);
        due(10, "other values in the mask", with("pa:00..........;pb:1...........").over(0, 1), 0);
        due(10, "twins", with("pa:0...........;pb:0..........w").over(0, 1), 0);
        due(10, "other bits", with("pa:00..........;pb:..0.........").over(0, 1), 0);
        due(10, "itself", x.over(0, 0), BAD);
        due(10, "over(8, 0)", x.over(8, 0), BAD);
        due(10, "over(0, 8)", x.over(0, 8), BAD);
        due(10, "over(-1, 0)", x.over(-1, 0), BAD);
    }

    static void rules() {
        DecoderForge x = with("pa:0000....wwww,w#5;pb:0001....WWWW,W#5;pc:0010..WWWWWW,W/3;pd:0011..wwwwww,w/9;"
                + "pe:0100wwwwWWWW,W<w;pf:0101wwwwxxxx,w<x,x#9,x/2;pg:0110....wwww,w<w");
        due(9, "w#5 of 5", x.fits(0x005), 0);
        due(9, "w#5 of 4", x.fits(0x004), 1);
        due(9, "W#5 of 5", x.fits(0x105), 0);
        due(9, "W#5 of -5", x.fits(0x10B), 2);
        due(9, "W/3 of 0", x.fits(0x200), 4);
        due(9, "W/3 of 1", x.fits(0x201), 0);
        due(9, "W/3 of -3", x.fits(0x23D), 4);
        due(9, "W/3 of -2", x.fits(0x23E), 0);
        due(9, "W/3 of -32", x.fits(0x220), 0);
        due(9, "w/9 of 63", x.fits(0x33F), 8);
        due(9, "w/9 of 62", x.fits(0x33E), 0);
        due(9, "-1 < 0", x.fits(0x40F), 16);
        due(9, "0 < 0", x.fits(0x400), 0);
        due(9, "7 < 8", x.fits(0x487), 16);
        due(9, "7 < 7", x.fits(0x477), 0);
        due(9, "-8 < 15", x.fits(0x4F8), 16);
        due(9, "three rules hold", x.fits(0x538), 32);
        due(9, "the first doesn't", x.fits(0x588), 0);
        due(9, "the second doesn't", x.fits(0x539), 0);
        due(9, "the third doesn't", x.fits(0x537), 0);
        due(9, "w<w", x.fits(0x600), 0);
    }

    static void many() {
        DecoderForge x = with(ISA);
        int[] words = {256, 256, 128, 1, 256, 256, 256, 2687};
        for (int f = 0; f < 8; f++) due(11, "many(" + f + ")", x.many(f), words[f]);
        due(11, "many(12)", x.many(12), 0);
        due(11, "many(13)", x.many(13), 0);
        due(11, "many(8)", x.many(8), BAD);
        due(11, "many(11)", x.many(11), BAD);
        due(11, "many(14)", x.many(14), BAD);
        due(11, "many(-1)", x.many(-1), BAD);
        DecoderForge y = with("pa:0...........;pb:.0..........");
        due(11, "MIXED", y.many(13), 1024);
        due(11, "NONE", y.many(12), 1024);
        due(11, "one", y.many(0), 1024);
        text(y, "pc:00..........");
        due(11, "MIXED no more", y.many(13), 0);
        due(11, "the new one", y.many(2), 1024);
        due(12, "any at 0", x.covers(7, 0), -1L);
        due(12, "st", x.covers(3, 35), 1L << 48);
        due(12, "ld", x.covers(2, 35), 0x0000FFFF0000FFFFL);
        due(12, "t at the end", x.covers(6, 63), -1L);
        due(12, "t ahead of it", x.covers(6, 59), 0);
        due(12, "covers(12, 0)", x.covers(12, 0), 0);
        due(12, "covers(8, 0)", x.covers(8, 0), 0);
        due(12, "covers(-1, 0)", x.covers(-1, 0), 0);
        due(12, "covers(7, 64)", x.covers(7, 64), 0);
        due(12, "covers(7, -1)", x.covers(7, -1), 0);
        due(12, "covers(7, MOST)", x.covers(7, MOST), 0);
        due(12, "NONE isn't told", new DecoderForge().covers(12, 0), 0);
        due(12, "nothing is refused", x.refused(0), 4);
        due(13, "first st", x.next(3, -1), 0x8F0);
        due(13, "second st", x.next(3, 0x8F0), NONE);
        due(13, "st above the one ahead", x.next(3, 0x8EF), 0x8F0);
        due(13, "any above 0", x.next(7, 0), 1);
        due(13, "any above 255", x.next(7, 255), 512);
        due(13, "t above 4094", x.next(6, 4094), 4095);
        due(13, "t above 4095", x.next(6, 4095), NONE);
        due(13, "MIXED", x.next(13, -1), NONE);
        due(13, "NONE", new DecoderForge().next(12, 17), 18);
        due(13, "MIXED of two", with("p" + "a:0.0.........;pb:.00.........").next(13, 5), 6);
        due(13, "next(0, -2)", x.next(0, -2), BAD);
        due(13, "next(0, 4096)", x.next(0, 4096), BAD);
        due(13, "next(8, 0)", x.next(8, 0), BAD);
        due(13, "next(14, 0)", x.next(14, 0), BAD);
        due(13, "next(-1, 0)", x.next(-1, 0), BAD);
    }

    static void clashes() {
        // a and b clash from 0x800 on (c is over both below); d and e are twins
        DecoderForge x = with("pa:....0.......;pb:.....0......;pc:0...00......;pd:1110000000.0;pe:1110000000.0");
        int[][] rows = {{0x01, 0x800}, {0x03, 0xE00}, {0x04, 0xE00}, {0x13, 0xE00}, {0x14, 0xE00}, {0x34, 0xE00}};
        for (int i = 0; i < rows.length; i++) {
            due(14, "clash(" + i + ", 0)", x.clash(i, 0), rows[i][0]);
            due(14, "clash(" + i + ", 1)", x.clash(i, 1), rows[i][1]);
        }
        due(14, "clash(6, 0)", x.clash(6, 0), NONE);
        due(14, "clash(MOST, 1)", x.clash(MOST, 1), NONE);
        due(14, "clash(-1, 0)", x.clash(-1, 0), BAD);
        due(14, "clash(LEAST, 0)", x.clash(LEAST, 0), BAD);
        due(14, "clash(0, 2)", x.clash(0, 2), BAD);
        due(14, "clash(0, -1)", x.clash(0, -1), BAD);
        due(14, "no forms", new DecoderForge().clash(0, 0), NONE);
        due(15, "DEAD", x.odd(0), 0b11000);
        due(15, "TWINS", x.odd(1), 1);
        due(15, "CLASHES", x.odd(2), 6);
        due(15, "odd(3)", x.odd(3), BAD);
        due(15, "odd(-1)", x.odd(-1), BAD);
        due(15, "TWINS of three", with("pa:0...........;jb:0wwwwwwww...,w#1;pc:0..........X").odd(1), 3);
        due(15, "alike masks are no TWINS", with("pa:0...........;pb:1...........").odd(1), 0);
        due(15, "DEAD by a rule", with("pa:0000wwww....,w<w").odd(0), 1);
        due(15, "DEAD below others", with("pa:............;pb:0...........;pc:1...........").odd(0), 1);
        due(15, "pair that is over, in a MIXED word", with("pa:0...........;pb:00..........;pc:..0.........").odd(2), 3);
        DecoderForge y = with("pa:0...........;pb:.0..........");
        due(15, "one clash", y.odd(2), 1);
        text(y, "pc:00..........");
        due(15, "none any more", y.odd(2), 0);
        due(15, "none DEAD", y.odd(0), 0);
    }

    static void trees() {
        DecoderForge x = with(ISA);
        due(16, "tests", x.greedy(0xF00, 0), 13);
        due(16, "on one way", x.greedy(0xF00, 1), 4);
        due(16, "first", x.greedy(0xF00, 2), 11);
        due(16, "crowd", x.greedy(0xF00, 3), 3);
        due(16, "no bits", x.greedy(0, 0), 0);
        due(16, "no bits: a leaf", x.greedy(0, 2), NONE);
        due(16, "no bits: all", x.greedy(0, 3), 8);
        due(16, "six bits", x.greedy(0xFC0, 0), 15);
        due(16, "six bits on one way", x.greedy(0xFC0, 1), 6);
        due(16, "seven bits", x.greedy(0x07F, 0), BAD);
        due(16, "greedy(-1, 0)", x.greedy(-1, 0), BAD);
        due(16, "greedy(4096, 0)", x.greedy(4096, 0), BAD);
        due(16, "greedy(1, 4)", x.greedy(1, 4), BAD);
        due(16, "greedy(1, -1)", x.greedy(1, -1), BAD);
        // bit 10 parts 2 and 2, bit 11 only 3 and 2: the more of both sides decides
        DecoderForge y = with("pa:00..........;pb:.0..........;pc:.1..........;pd:11..........");
        due(16, "the fewer of the more", y.greedy(0xC00, 2), 10);
        due(16, "its tests", y.greedy(0xC00, 0), 3);
        // both leave 2 at most; bit 11: 2 and 2, bit 0: 2 and 1
        DecoderForge z = with("pa:0..........0;pb:1..........0;pc:...........1");
        due(16, "the fewer together", z.greedy(0x801, 2), 0);
        due(16, "the highest of several", with("pa:00..........;pb:11..........").greedy(0xC00, 2), 11);
        due(16, "not in T", with("pa:00..........;pb:11..........").greedy(0x400, 2), 10);
        // fields and free bits aren't fixed
        due(16, "no fixed bit in T", with("pa:0wwww.......").greedy(0x7C0, 2), NONE);
        leastTrees();
        due(18, "leaf of st", x.leaf(0xF00, 0x8F0), 0b10001100);
        due(18, "leaf of any", x.leaf(0xF00, 0), 128);
        due(18, "leaf of add", x.leaf(0xF00, 0x1FF), 129);
        due(18, "leaf without bits", x.leaf(0, 5), 255);
        due(18, "leaf of no forms", new DecoderForge().leaf(0xF00, 5), 0);
        due(18, "leaf that no one is in", with("pa:0...........").leaf(0x800, 0x800), 0);
        due(18, "leaf(0x7F, 0)", x.leaf(0x7F, 0), BAD);
        due(18, "leaf(0, 4096)", x.leaf(0, 4096), BAD);
        due(18, "leaf(0, -1)", x.leaf(0, -1), BAD);
        due(18, "leaf(-1, 0)", x.leaf(-1, 0), BAD);
    }

    static void leastTrees() {
        DecoderForge x = with(ISA);
        due(17, "tests", x.least(0xF00, 0), 11);
        due(17, "first", x.least(0xF00, 1), 11);
        due(17, "no bits", x.least(0, 0), 0);
        due(17, "no bits: a leaf", x.least(0, 1), NONE);
        due(17, "least(0x7F, 0)", x.least(0x7F, 0), BAD);
        due(17, "least(-1, 0)", x.least(-1, 0), BAD);
        due(17, "least(4096, 0)", x.least(4096, 0), BAD);
        due(17, "least(0, 2)", x.least(0, 2), BAD);
        due(17, "least(0, -1)", x.least(0, -1), BAD);
        // first bit 10: c alone needs no more on side 1; first bit 11: bit 10 on both sides
        DecoderForge y = with("pa:00..........;pb:10..........;pc:.1..........");
        due(17, "fewest", y.least(0xC00, 0), 2);
        due(17, "not the highest", y.least(0xC00, 1), 10);
        due(17, "of several the highest", with("pa:00..........;pb:11..........").least(0xC00, 1), 11);
        due(17, "of several", with("pa:00..........;pb:11..........").least(0xC00, 0), 3);
        due(17, "a bit that all fix alike is useful", with("pa:1...........").least(0x800, 0), 1);
        due(17, "six bits", with("pa:111111......").least(0xFC0, 0), 6);
    }

    static void fields() {
        DecoderForge x = with(ISA + ";pq:W.xX.z.W.x.Y");
        due(19, "w of add", x.field(0, 0, 0), 4);
        due(19, "X of add", x.field(0, 5, 1), 15);
        due(19, "place of X", x.field(0, 5, 2), 1);
        due(19, "place of w", x.field(0, 0, 2), 0);
        due(19, "no W in add", x.field(0, 4, 0), NONE);
        due(19, "no x in add", x.field(0, 1, 2), NONE);
        due(19, "W apart", x.field(8, 4, 1), 0x810);
        due(19, "x apart", x.field(8, 1, 1), 0x204);
        due(19, "place of Y", x.field(8, 6, 2), 4);
        due(19, "place of z", x.field(8, 3, 2), 3);
        due(19, "one bit", x.field(8, 6, 0), 1);
        due(19, "field(9, 0, 0)", x.field(9, 0, 0), BAD);
        due(19, "field(-1, 0, 0)", x.field(-1, 0, 0), BAD);
        due(19, "field(0, 8, 0)", x.field(0, 8, 0), BAD);
        due(19, "field(0, -1, 0)", x.field(0, -1, 0), BAD);
        due(19, "field(0, 0, 3)", x.field(0, 0, 3), BAD);
        due(19, "field(0, 4, -1)", x.field(0, 4, -1), BAD);
        due(20, "w of 0x19F", x.taken(0, 0, 0x19F), 9);
        due(20, "X of 0x19F", x.taken(0, 5, 0x19F), -1);
        due(20, "X of 0x197", x.taken(0, 5, 0x197), 7);
        due(20, "X of 0x198", x.taken(0, 5, 0x198), -8);
        due(20, "a word that doesn't fit", x.taken(0, 0, 0xF90), 9);
        due(20, "eight signed bits", x.taken(1, 4, 0x480), -128);
        due(20, "W apart", x.taken(8, 4, 0x800), -2);
        due(20, "W apart, the low one", x.taken(8, 4, 0x010), 1);
        due(20, "one signed bit", x.taken(8, 6, 1), -1);
        due(20, "no such field", x.taken(0, 4, 0), BAD);
        due(20, "no such form", x.taken(9, 0, 0), BAD);
        due(20, "taken(0, 8, 0)", x.taken(0, 8, 0), BAD);
        due(20, "taken(0, -1, 0)", x.taken(0, -1, 0), BAD);
        due(20, "taken(0, 0, 4096)", x.taken(0, 0, 4096), BAD);
        due(20, "taken(0, 0, -1)", x.taken(0, 0, -1), BAD);
        due(21, "w 9", x.laid(0, 0, 0x1F5, 9), 0x195);
        due(21, "else as it is", x.laid(0, 0, 0xEFA, 0), 0xE0A);
        due(21, "w 15", x.laid(0, 0, 0, 15), 0xF0);
        due(21, "w 16", x.laid(0, 0, 0, 16), BAD);
        due(21, "w -1", x.laid(0, 0, 0, -1), BAD);
        due(21, "X 7", x.laid(0, 5, 0, 7), 7);
        due(21, "X 8", x.laid(0, 5, 0, 8), BAD);
        due(21, "X -8", x.laid(0, 5, 0, -8), 8);
        due(21, "X -9", x.laid(0, 5, 0, -9), BAD);
        due(21, "W -128", x.laid(1, 4, 0, -128), 128);
        due(21, "W 127", x.laid(1, 4, 0xFFF, 127), 0xF7F);
        due(21, "W 128", x.laid(1, 4, 0, 128), BAD);
        due(21, "W apart 1", x.laid(8, 4, 0xFFF, 1), 0x7FF);
        due(21, "W apart -2", x.laid(8, 4, 0, -2), 0x800);
        due(21, "one signed bit, 1", x.laid(8, 6, 0, 1), BAD);
        due(21, "one signed bit, -1", x.laid(8, 6, 0, -1), 1);
        due(21, "MOST", x.laid(1, 4, 0, MOST), BAD);
        due(21, "LEAST", x.laid(1, 4, 0, LEAST), BAD);
        due(21, "no such field", x.laid(0, 4, 0, 0), BAD);
        due(21, "no such form", x.laid(9, 0, 0, 0), BAD);
        due(21, "no such letter", x.laid(0, 8, 0, 0), BAD);
        due(21, "no such word", x.laid(0, 0, 4096, 0), BAD);
    }

    static void hand() {
        DecoderForge x = with(ISA);
        due(22, "hold 255", x.hold(0, 255), 0);
        due(22, "hold -128", x.hold(0, -128), 255);
        due(22, "another letter", x.hold(7, 1), 0);
        due(22, "hold(0, 256)", x.hold(0, 256), BAD);
        due(22, "hold(0, -129)", x.hold(0, -129), BAD);
        due(22, "hold(8, 0)", x.hold(8, 0), BAD);
        due(22, "hold(-1, 0)", x.hold(-1, 0), BAD);
        due(22, "refused ones change nothing", x.hold(0, 3), -128);
        due(23, "add 3 0", x.make(0), 0x130);
        x.hold(5, -1);
        due(23, "add 3 -1", x.make(0), 0x13F);
        x.hold(5, 8);
        due(23, "X 8", x.make(0), BAD);
        due(23, "without fields", x.make(3), 0x8F0);
        due(23, "free bits are 0", x.make(6), 0xF00);
        due(23, "go 0", x.make(1), 0x400);
        x.hold(1, 3);
        due(23, "ld 3 0 doesn't fit", x.make(2), STATE);
        x.hold(1, 4);
        x.hold(2, 16);
        due(23, "y 16", x.make(2), BAD);
        x.hold(2, 9);
        due(23, "ld 4 9", x.make(2), 0x849);
        due(23, "make(8)", x.make(8), BAD);
        due(23, "make(-1)", x.make(-1), BAD);
        due(23, "make(12)", x.make(12), BAD);
        due(23, "a word that means another one", with("pa:............;pb:000000000000").make(0), STATE);
        due(23, "a MIXED word", with("pa:0...........;pb:.0..........").make(0), STATE);
        due(23, "refused", x.refused(2), 1);
        // W and w are two letters of the hand
        DecoderForge y = with("pa:WWWWwwww....");
        y.hold(0, 5);
        due(23, "w alone", y.make(0), 0x050);
        y.hold(4, -5);
        due(23, "W too", y.make(0), 0xB50);
    }

    static void lines() {
        DecoderForge x = with(ISA);
        dueLine(x, 0x10F, "add 0 -1");
        dueLine(x, 0x1A8, "add 10 -8");
        dueLine(x, 0x480, "go -128");
        dueLine(x, 0x47F, "go 127");
        dueLine(x, 0x8F0, "st");
        dueLine(x, 0x60E, "g 0 3");
        dueLine(x, 0, "any");
        dueLine(with("pa:wwwwwwww1..."), 0xFF8, "a 255");
        dueLine(with("pa:wwwwwwww1..."), 0xC88, "a 200");
        dueLine(with("pa:wwwwwwww1..."), 0x648, "a 100");
        dueLine(with("pa:WxYzXyZw...."), 0xFF0, "a -1 1 -1 1 -1 1 -1 1");
        dueLine(with("pa:1..........."), 0, "?0");
        dueLine(with("pa:1..........."), 2047, "?2047");
        dueLine(with("pa:0...........;pb:.0.........."), 1023, "!1023");
        dueLine(with("pa:0...........;pb:.0.........."), 10, "!10");
        due(24, "write(4096)", x.write(4096), BAD);
        due(24, "write(-1)", x.write(-1), BAD);
        due(24, "the line behind a refusal", x.count(2), 3);
        due(25, "written(0)", x.written(0), 'a');
        due(25, "written(2)", x.written(2), 'y');
        due(25, "written(3)", x.written(3), NONE);
        due(25, "written(-1)", x.written(-1), NONE);
        due(25, "written(MOST)", x.written(MOST), NONE);
        x.write(0x10F);
        x.write(0x8F0);
        due(25, "of the latest", x.written(1), 't');
        due(25, "not of one ahead", x.written(2), NONE);
        text(x, "pzz:............");
        due(25, "it stays as it was written", x.written(0), 's');
        due(25, "no REFUSALS of it", x.refused(0), 2);
    }

    static void reading() {
        DecoderForge x = with(ISA);
        due(26, "add 3 -1", read(x, "add 3 -1"), 0x13F);
        due(26, "the tape is empty", x.count(1), 0);
        due(26, "0s ahead", read(x, "add 003 -001"), 0x13F);
        due(26, "-0", read(x, "add -0 -000"), 0x100);
        due(26, "go -128", read(x, "go -128"), 0x480);
        due(26, "go 127", read(x, "go 127"), 0x47F);
        due(26, "st", read(x, "st"), 0x8F0);
        due(26, "free bits are 0", read(x, "g -1 3"), 0x6F6);
        due(26, "nothing", read(x, ""), -10);
        due(26, "no letter", read(x, " add"), -10);
        due(26, "a capital", read(x, "Add 1 1"), -10);
        due(26, "a name there isn't", read(x, "xx 1"), -12);
        due(26, "a name that is too long", read(x, "adds 1 1"), -14);
        due(26, "a name of eight letters", read(x, "addaddgo"), -18);
        due(26, "a name that is the end of it", read(x, "agoo"), -14);
        due(26, "a part of a name", read(x, "ad 1 1"), -12);
        due(26, "too early", read(x, "add 3"), -15);
        due(26, "too early behind a blank", read(x, "add 3 "), -16);
        due(26, "too early behind -", read(x, "add 3 -"), -17);
        due(26, "two blanks", read(x, "add  3 1"), -14);
        due(26, "two -", read(x, "add 3 --1"), -17);
        due(26, "no blank", read(x, "add3 1"), -13);
        due(26, "a +", read(x, "add +3 1"), -14);
        due(26, "more behind it", read(x, "add 3 -1 "), -18);
        due(26, "more behind st", read(x, "st 1"), -12);
        due(26, "a fourth digit", read(x, "add 0001 1"), -17);
        due(26, "w 16", read(x, "add 16 1"), -14);
        due(26, "w 160, of 1600", read(x, "add 1600 1"), -14);
        due(26, "w -1", read(x, "add -1 1"), -14);
        due(26, "X 8", read(x, "add 1 8"), -16);
        due(26, "X -9, whatever is behind", read(x, "add 1 -9x"), -16);
        due(26, "X 8 and a fourth digit", read(x, "add 1 0080"), -16);
        due(26, "X 7 and a fourth digit", read(x, "add 1 0070"), -19);
        due(26, "go 128", read(x, "go 128"), -13);
        due(26, "ld 14 5", read(x, "ld 14 5"), 0x8E5);
        due(26, "ld 15 5 doesn't mean ld", read(x, "ld 15 5"), -10 - 8);
        due(26, "ld 15 5 and more", read(x, "ld 15 5;"), -10 - 7);
        due(26, "nothing is refused", x.refused(0) + x.refused(1) + x.refused(2), 0);
        due(26, "the hand isn't asked", x.hold(0, 1), 0);
        for (int word = 0x100; word < 0x140; word += 7) {
            due(26, "line of " + word, read(x, line(x, word)), word);
        }
        due(26, "a sign above 127", read(x, "add" + (char) 200), -13);
    }

    static void store() {
        DecoderForge x = with(ISA);
        due(27, "put", x.put(0, 4095), 0);
        due(27, "put again", x.put(0, 7), 4095);
        due(27, "put the last", x.put(31, 9), 0);
        due(27, "put(32, 0)", x.put(32, 0), BAD);
        due(27, "put(-1, 0)", x.put(-1, 0), BAD);
        due(27, "put(0, 4096)", x.put(0, 4096), BAD);
        due(27, "put(0, -1)", x.put(0, -1), BAD);
        due(28, "cell(0)", x.cell(0), 7);
        due(28, "cell(31)", x.cell(31), 9);
        due(28, "cell(1)", x.cell(1), 0);
        due(28, "cell(32)", x.cell(32), BAD);
        due(28, "cell(-1)", x.cell(-1), BAD);
        for (int i = 0; i < 6; i++) x.put(i, 100 + i);
        due(29, "copy onward over itself", x.copy(0, 2, 4), 4);
        int[] onward = {100, 101, 100, 101, 102, 103, 0};
        for (int i = 0; i < onward.length; i++) due(29, "cell " + i, x.cell(i), onward[i]);
        due(29, "copy back over itself", x.copy(2, 1, 4), 4);
        int[] back = {100, 100, 101, 102, 103, 103, 0};
        for (int i = 0; i < back.length; i++) due(29, "cell " + i, x.cell(i), back[i]);
        due(29, "copy none", x.copy(31, 31, 0), 0);
        due(29, "copy to the end", x.copy(0, 28, 4), 4);
        due(29, "the end", x.cell(31), 102);
        due(29, "copy all onto itself", x.copy(0, 0, 32), 32);
        due(29, "copy(0, 29, 4)", x.copy(0, 29, 4), BAD);
        due(29, "copy(29, 0, 4)", x.copy(29, 0, 4), BAD);
        due(29, "copy(0, 0, 33)", x.copy(0, 0, 33), BAD);
        due(29, "copy(0, 0, -1)", x.copy(0, 0, -1), BAD);
        due(29, "copy(32, 0, 0)", x.copy(32, 0, 0), BAD);
        due(29, "copy(0, 32, 0)", x.copy(0, 32, 0), BAD);
        due(29, "copy(-1, 0, 1)", x.copy(-1, 0, 1), BAD);
        due(29, "copy(1, 1, MOST)", x.copy(1, 1, MOST), BAD);
        due(29, "nothing changed", x.cell(1), 100);
        DecoderForge y = with("pa:01..........;pb:1...........;pc:.1..........");
        y.put(0, 0x400);
        y.put(31, 0x800);
        y.put(7, 0xC00);
        due(30, "a", y.holders(0), 1);
        due(30, "b", y.holders(1), 1 << 31);
        due(30, "c", y.holders(2), 0);
        due(30, "MIXED", y.holders(13), 1 << 7);
        due(30, "NONE", y.holders(12), ~(1 << 31 | 1 << 7 | 1));
        due(30, "holders(3)", y.holders(3), BAD);
        due(30, "holders(14)", y.holders(14), BAD);
        due(30, "holders(-1)", y.holders(-1), BAD);
    }

    /** Forms without a wide one: words of no form halt. */
    static final String WAYS = "pp:0001....wwww;jj:0010WWWWWWWW;ll:0011........;cc:0100WWWWWWWW;ss:0101....wwww;"
            + "tt:0110........;gg:0111WWWWWWWW;jk:1000wwwwwwww;cm:1001........";

    static void dueWay(String name, DecoderForge x, int cell, int n, int... want) {
        for (int what = 0; what < 5; what++) {
            due(31, name + ": walk(" + cell + ", " + n + ", " + what + ")", x.walk(cell, n, what), want[what]);
        }
    }

    static void walks() {
        DecoderForge x = with(WAYS);
        x.put(31, 0x100);
        x.put(0, 0x300);
        x.put(1, 0x500);
        dueWay("plain, load, store, round the end", x, 31, 200, 2, 3, 2 + 3 + 5, 0, 1 << 31 | 3);
        dueWay("as many as told", x, 31, 2, 1, 2, 5, 0, 1 << 31 | 1);
        dueWay("none", x, 31, 0, 31, 0, 0, 0, 0);
        x.put(2, 0x2FE);
        dueWay("a jump back goes round", x, 2, 200, 1, 200, 66 * (4 + 3 + 5) + 4 + 3, 0, 7);
        x.put(2, 0x280);
        dueWay("a jump of -128", x, 2, 5, 2, 5, 20, 0, 4);
        x.put(2, 0x8FF);
        dueWay("a jump of 255", x, 2, 1, 1, 1, 4, 0, 4);
        // call, trap: back to the cell behind the call
        DecoderForge y = with(WAYS);
        y.put(0, 0x405);
        y.put(5, 0x600);
        y.put(1, 0x600);
        dueWay("call and trap", y, 0, 200, 1, 2, 8 + 9, 0, 33);
        dueWay("call alone", y, 0, 1, 5, 1, 8, 1, 1);
        dueWay("trap at once", y, 5, 9, 5, 0, 0, 0, 0);
        // a call in the last cell keeps cell 0
        y.put(31, 0x406);
        y.put(0, 0);
        dueWay("behind the last is 0", y, 31, 9, 0, 2, 8 + 9, 0, 1 << 31 | 32);
        // a call without a field stays and keeps; five of them keep four
        y.put(9, 0x900);
        dueWay("calls of itself", y, 9, 5, 9, 5, 30, 4, 1 << 9);
        gates();
        DecoderForge z = with(WAYS);
        for (int i = 0; i < 5; i++) z.put(4 * i, 0x404);
        for (int i = 0; i < 5; i++) z.put(4 * i + 1, 0x600);
        z.put(20, 0x600);
        // returns 1 5 9 13 17, 1 is lost: traps at 20, 17, 13, 9 are gone, the one at 5 halts
        dueWay("the oldest is lost", z, 0, 200, 5, 9, 5 * 8 + 4 * 9, 0, 0x133311);
        due(31, "walk(32, 0, 0)", x.walk(32, 0, 0), BAD);
        due(31, "walk(-1, 0, 0)", x.walk(-1, 0, 0), BAD);
        due(31, "walk(0, 201, 0)", x.walk(0, 201, 0), BAD);
        due(31, "walk(0, -1, 0)", x.walk(0, -1, 0), BAD);
        due(31, "walk(0, 0, 5)", x.walk(0, 0, 5), BAD);
        due(31, "walk(0, 0, -1)", x.walk(0, 0, -1), BAD);
        due(31, "in thought", x.count(4), 0);
        DecoderForge m = with("pa:0...........;pb:.0..........");
        dueWay("MIXED halts", m, 3, 9, 3, 0, 0, 0, 0);
        halting();
    }

    static void gates() {
        DecoderForge x = with(WAYS);
        x.put(0, 0x7FE);
        dueWay("an even gate, back", x, 0, 1, 30, 1, 8 + 2, 1, 1);
        x.put(0, 0x703);
        dueWay("an odd gate", x, 0, 1, 1, 1, 8 + 3, 0, 1);
        x.put(0, 0x7FF);
        dueWay("an odd gate below 0", x, 0, 1, 1, 1, 8 + 1, 0, 1);
        x.put(0, 0x700);
        dueWay("a gate of 0", x, 0, 1, 0, 1, 8, 1, 1);
    }

    static void halting() {
        DecoderForge x = with(WAYS);
        due(32, "at once", x.halts(0), 0);
        x.put(0, 0x100);
        x.put(31, 0x100);
        due(32, "behind one", x.halts(0), 1);
        due(32, "behind two", x.halts(31), 2);
        x.put(5, 0x200);
        due(32, "never", x.halts(5), NONE);
        due(32, "halts(32)", x.halts(32), BAD);
        due(32, "halts(-1)", x.halts(-1), BAD);
        // calls pile up ways through the same cells: just 200 steps, and one more
        due(32, "behind 200", longWay(200).halts(0), 200);
        due(32, "behind 199", longWay(199).halts(0), 199);
        due(32, "behind 201", longWay(201).halts(0), NONE);
    }

    /** A way of so many steps that ends: calls and traps lead through the same cells several times. */
    static DecoderForge longWay(int steps) {
        for (int trap = 5; trap < 32; trap++) {
            int ahead = steps - reckon(trap);
            if (ahead >= 0 && ahead + trap < 32) return shifted(trap, ahead);
        }
        throw new IllegalStateException("no way of " + steps + " steps");
    }

    /** How many steps four calls ahead of plain cells and a trap take, by their own rule. */
    static int reckon(int trap) {
        java.util.ArrayDeque<Integer> kept = new java.util.ArrayDeque<>();
        int at = 0, steps = 0;
        while (steps < 1000) {
            if (at < 4) {
                if (kept.size() == 4) kept.removeFirst();
                kept.addLast(at + 1);
                at++;
            } else if (at < trap) {
                at++;
            } else {
                if (kept.isEmpty()) return steps;
                at = kept.removeLast();
            }
            steps++;
        }
        return steps;
    }

    /** The same behind some plain cells. */
    static DecoderForge shifted(int trap, int ahead) {
        DecoderForge x = with(WAYS);
        for (int i = 0; i < 32; i++) {
            int at = i - ahead;
            int word = at < 0 || at >= 4 && at < trap ? 0x100 : at < 4 ? 0x401 : 0x600;
            if (at <= trap) x.put(i, word);
        }
        return x;
    }

    static void runs() {
        DecoderForge x = with(WAYS);
        x.put(0, 0x101);
        x.put(1, 0x102);
        x.put(2, 0x101);
        x.put(3, 0x103);
        due(33, "run two", x.run(0, 2), 2);
        due(33, "run three, one was met", x.run(2, 9), 3);
        due(33, "halts at once", x.run(9, 9), 3);
        due(33, "run(0, 0)", x.run(0, 0), BAD);
        due(33, "run(0, 201)", x.run(0, 201), BAD);
        due(33, "run(32, 1)", x.run(32, 1), BAD);
        due(33, "run(-1, 1)", x.run(-1, 1), BAD);
        due(33, "run(0, 200)", x.run(0, 200), 3);
        due(34, "met(0x101)", x.met(0x101), 1);
        due(34, "met(0x103)", x.met(0x103), 1);
        due(34, "met(0x104)", x.met(0x104), 0);
        due(34, "where it halted", x.met(0), 0);
        due(34, "met(4096)", x.met(4096), BAD);
        due(34, "met(-1)", x.met(-1), BAD);
        int[] order = {0x101, 0x102, 0x103, NONE};
        for (int i = 0; i < 4; i++) due(35, "order(" + i + ")", x.order(i), order[i]);
        due(35, "order(-1)", x.order(-1), NONE);
        due(35, "order(MOST)", x.order(MOST), NONE);
        due(35, "nothing is refused", x.refused(0), 6);
        x.put(0, 0x600);
        x.put(31, 0x408);
        x.put(7, 0x600);
        x.run(31, 200);
        due(34, "a trap that is gone", x.met(0x600), 1);
        due(34, "a call", x.met(0x408), 1);
        forgetting();
    }

    static void forgetting() {
        DecoderForge x = with("pp:01..wwwwwwww");
        for (int i = 0; i < 32; i++) x.put(i, 0x400 + i);
        due(33, "32 met", x.run(0, 32), 32);
        due(33, "32 met again", x.run(5, 200), 32);
        due(35, "met again in its old place", x.order(0), 0x400);
        x.put(7, 0x480);
        due(33, "one more", x.run(7, 1), 32);
        due(34, "the earliest is forgotten", x.met(0x400), 0);
        due(35, "the new one is last", x.order(31), 0x480);
        due(35, "the second is first", x.order(0), 0x401);
        due(33, "met again", x.run(0, 1), 32);
        due(35, "it comes last", x.order(31), 0x400);
        due(34, "the next is forgotten", x.met(0x401), 0);
        due(35, "the first then", x.order(0), 0x402);
        due(35, "order(32)", x.order(32), NONE);
        due(37, "undo run", x.undo(), 15);
        due(34, "as before it", x.met(0x401), 1);
        due(35, "as before it", x.order(31), 0x480);
        due(33, "not one more than 32", x.count(4), 32);
    }

    static void costs() {
        DecoderForge x = with(ISA);
        due(36, "PLAIN of 2", x.costs(0x100), 3);
        due(36, "PLAIN of 0", x.costs(0), 1);
        due(36, "JUMP of 1", x.costs(0x400), 4);
        due(36, "LOAD of 2", x.costs(0x800), 9);
        due(36, "STORE of 0", x.costs(0x8F0), 2);
        due(36, "CALL of 1", x.costs(0x5FF), 8);
        due(36, "GATE of 2, FIRST 0", x.costs(0x60E), 10);
        due(36, "GATE of 2, FIRST 7", x.costs(0x670), 17);
        due(36, "GATE of 2, FIRST -8", x.costs(0x680), 18);
        due(36, "TRAP", x.costs(0xFFF), 9);
        due(36, "TRAP of 1", with("ta:wwww........").costs(0), 9);
        due(36, "GATE of 0", with("ga:............").costs(0), 6);
        due(36, "NONE", with("pa:1...........").costs(0), 0);
        due(36, "MIXED", with("pa:0...........;pb:.0..........").costs(0), 0);
        due(36, "costs(4096)", x.costs(4096), BAD);
        due(36, "costs(-1)", x.costs(-1), BAD);
    }

    static void takingBack() {
        DecoderForge x = with(WAYS);
        due(37, "none", x.undo(), STATE);
        x.put(0, 0x101);
        x.hold(3, 9);
        x.copy(0, 1, 1);
        x.run(0, 9);
        due(37, "four", x.count(3), 4);
        x.put(32, 0);
        x.hold(8, 0);
        x.copy(0, 31, 2);
        x.run(0, 0);
        due(37, "refused ones don't count", x.count(3), 4);
        due(37, "one is met", x.count(4), 1);
        due(37, "undo run", x.undo(), 3);
        due(37, "none is met", x.count(4), 0);
        due(37, "not met", x.met(0x101), 0);
        due(37, "copied still", x.cell(1), 0x101);
        due(37, "undo copy", x.undo(), 2);
        due(37, "not copied", x.cell(1), 0);
        due(37, "undo hold", x.undo(), 1);
        due(37, "undo put", x.undo(), 0);
        due(37, "nothing put", x.cell(0), 0);
        due(37, "none", x.undo(), STATE);
        due(37, "what was held", x.hold(3, 1), 0);
        due(37, "that counts", x.count(3), 1);
        for (int i = 0; i < 20; i++) x.put(5, i + 1);
        due(37, "16 at most", x.count(3), 16);
        for (int i = 15; i >= 0; i--) due(37, "undo to " + i, x.undo(), i);
        due(37, "the oldest are lost", x.cell(5), 4);
        due(37, "none", x.undo(), STATE);
        x.copy(0, 0, 0);
        x.put(0, 0);
        due(37, "what changes nothing counts", x.count(3), 2);
        text(x, "pz:1111........");
        due(37, "none behind a text", x.undo(), STATE);
        due(37, "refused", x.refused(2), 4);
    }

    static void images() {
        DecoderForge x = with(WAYS);
        due(39, "nothing was kept", x.back(), STATE);
        x.put(0, 0x101);
        x.hold(3, 9);
        x.run(0, 1);
        due(38, "image", x.image(), 9);
        due(38, "what can be taken back stays", x.count(3), 3);
        x.put(0, 0x102);
        x.put(31, 5);
        x.hold(3, 8);
        x.run(0, 1);
        x.write(0x101);
        x.cell(99);
        text(x, "pz:0001....0000");
        x.put(4, 4);
        feed(x, "abc");
        due(38, "a form more", x.count(0), 10);
        due(38, "which is over", x.means(0x100), 9);
        due(38, "it clashes not", x.many(9), 16);
        due(39, "back", x.back(), 9);
        due(39, "none can be taken back", x.count(3), 0);
        due(39, "not even one", x.undo(), STATE);
        due(39, "the tape stays", x.count(1), 3);
        due(39, "the line stays", x.count(2), 3);
        due(39, "refusals stay", x.refused(0), 1);
        due(39, "forms", x.count(0), 9);
        due(39, "meaning", x.means(0x100), 0);
        due(39, "many", x.many(0), 256);
        due(39, "no such form", x.many(9), BAD);
        due(39, "name", x.named(25, -1, -1), NONE);
        due(39, "cell 0", x.cell(0), 0x101);
        due(39, "cell 31", x.cell(31), 0);
        due(39, "met", x.count(4), 1);
        due(39, "met it", x.met(0x101), 1);
        due(39, "not met", x.met(0x102), 0);
        due(39, "held", x.hold(3, 0), 9);
        due(39, "back again", x.back(), 9);
        due(39, "held again", x.hold(3, 0), 9);
        x.wipe();
        text(x, "pz:0001....1111;py:............");
        due(39, "other forms", x.means(0x10F), 9);
        due(39, "the trees have them", x.leaf(0x800, 0) >> 9, 3);
        due(38, "a new image", x.image(), 11);
        due(39, "is what comes back", x.back(), 11);
        due(39, "with what was held", x.hold(3, 1), 0);
        DecoderForge y = new DecoderForge();
        due(38, "image of nothing", y.image(), 0);
        text(y, "pa:............");
        due(39, "back to nothing", y.back(), 0);
        due(39, "no meaning", y.means(0), NONE);
        due(39, "greedy", y.greedy(63, 3), 0);
        due(39, "the name is free", text(y, "ja:...........1"), 1);
        due(39, "and it is another form", y.means(0), NONE);
    }

    /** What an earlier text, tree or image left in its rooms must not show in a later one. */
    static void usedAgain() {
        DecoderForge x = new DecoderForge();
        due(4, "a fault behind a whole form", text(x, "pa:1wwwwWWWW...,w#1,W#2;px"), -10 - 26);
        due(4, "another text", text(x, "jb:.........0.."), 1);
        int[] told = {1, 4, 0, 0, 0, 1};
        for (int what = 0; what < 6; what++) due(5, "formOf(0, " + what + ")", x.formOf(0, what), told[what]);
        due(19, "no field w", x.field(0, 0, 0), NONE);
        due(9, "no rules", x.fits(0), 1);
        x.image();
        text(x, "pc:WWWW.....0.0;pd:0........0..;pe:...........1");
        due(8, "over", x.means(0x801), MIXED);
        due(14, "clashes", x.odd(2), 5);
        due(16, "one way", x.greedy(0x805, 1), 3);
        due(16, "no way", x.greedy(0, 1), 0);
        due(16, "the most", x.greedy(0, 3), 4);
        due(16, "fewer", x.greedy(0x805, 3), 3);
        x.back();
        text(x, "pw:xxxxxxxxyyyy;pd:1.........1.");
        due(19, "W no more", x.field(1, 4, 1), NONE);
        due(20, "x of eight", x.taken(1, 1, 0xFFF), 255);
        due(14, "clash", x.clash(0, 0), 1);
        due(14, "witness", x.clash(0, 1), 0x802);
        due(14, "of three", x.odd(2), 3);
        due(10, "over no more", x.over(1, 0), 0);
        due(16, "the bits that are fixed now", x.greedy(0x805, 0), 3);
        due(16, "the bits that are fixed now", x.greedy(0x001, 2), NONE);
        due(17, "bit 0", with("pa:...........0").least(1, 0), 1);
        due(17, "bit 0 first", with("pa:...........0").least(1, 1), 0);
        due(18, "bit 0", with("pa:...........0;pb:...........1").leaf(1, 5), 2);
    }

    static void counts() {
        DecoderForge x = with(WAYS);
        x.put(0, 0x100);
        x.run(0, 5);
        x.hold(1, 1);
        x.write(0x101);
        feed(x, "abcde");
        int[] due = {9, 5, 3, 3, 1};
        for (int what = 0; what < 5; what++) due(40, "count(" + what + ")", x.count(what), due[what]);
        due(40, "count(5)", x.count(5), BAD);
        due(40, "count(-1)", x.count(-1), BAD);
        due(41, "BAD", x.refused(0), 2);
        due(41, "another one", x.refused(3), BAD);
        due(41, "another one", x.refused(-1), BAD);
        due(41, "counted, too", x.refused(0), 4);
        due(41, "FULL", x.refused(1), 0);
        due(41, "STATE", x.refused(2), 0);
        for (int i = 0; i < 25; i++) x.feed(0, 8);
        due(41, "FULL", x.refused(1), 1);
        x.back();
        due(41, "STATE", x.refused(2), 1);
        x.text();
        x.read();
        x.means(0);
        x.next(0, 4000);
        x.covers(-1, -1);
        due(41, "faults and NONE are none", x.refused(0) + x.refused(1) + x.refused(2), 6);
    }

    public static void main(String[] args) {
        newObject();
        tape();
        texts();
        told();
        meanings();
        many();
        clashes();
        trees();
        fields();
        hand();
        lines();
        reading();
        store();
        walks();
        runs();
        costs();
        takingBack();
        images();
        usedAgain();
        counts();
        System.out.println("PromiseTest: " + asked + " answers, " + wrong + " not as due");
        if (wrong != 0) System.exit(1);
    }
}
